def MX9_draw : ic_Md := (yX9_draw, cX9_draw, 2, (some .int), { frames := 0, cells := 0, slots := 0, locals := 0 })
theorem mv_X9_draw : ic_MV MX9_draw := ⟨ic_in 1176 (by decide +kernel), ic_in 61 (by decide +kernel), ic_in 79 (by decide +kernel), ic_in 1177 (by decide +kernel), by decide +kernel, by decide +kernel⟩
def MX9_drift : ic_Md := (yX9_drift, cX9_drift, 6, (some .int), { frames := 5, cells := 0, slots := 0, locals := 124 })
theorem mv_X9_drift : ic_MV MX9_drift := ⟨ic_in 1171 (by decide +kernel), ic_in 1172 (by decide +kernel), ic_in 79 (by decide +kernel), ic_in 1173 (by decide +kernel), by decide +kernel, by decide +kernel⟩
def MX9_undo : ic_Md := (yX9_undo, cX9_undo, 1, (some .int), { frames := 1, cells := 0, slots := 0, locals := 25 })
theorem mv_X9_undo : ic_MV MX9_undo := ⟨ic_in 1183 (by decide +kernel), ic_in 1184 (by decide +kernel), ic_in 79 (by decide +kernel), ic_in 1185 (by decide +kernel), by decide +kernel, by decide +kernel⟩
def MX9_tries : ic_Md := (yX9_tries, cX9_tries, 1, none, { frames := 1, cells := 0, slots := 0, locals := 25 })
theorem mv_X9_tries : ic_MV MX9_tries := ⟨ic_in 1196 (by decide +kernel), ic_in 63 (by decide +kernel), ic_in 79 (by decide +kernel), ic_in 1197 (by decide +kernel), by decide +kernel, by decide +kernel⟩
def MX9_triesAlone : ic_Md := (yX9_triesAlone, cX9_triesAlone, 2, none, { frames := 2, cells := 0, slots := 0, locals := 45 })
theorem mv_X9_triesAlone : ic_MV MX9_triesAlone := ⟨ic_in 1192 (by decide +kernel), ic_in 62 (by decide +kernel), ic_in 79 (by decide +kernel), ic_in 1193 (by decide +kernel), by decide +kernel, by decide +kernel⟩
def MX9_then : ic_Md := (yX9_then, cX9_then, 4, (some .int), { frames := 5, cells := 0, slots := 0, locals := 124 })
theorem mv_X9_then : ic_MV MX9_then := ⟨ic_in 1187 (by decide +kernel), ic_in 1188 (by decide +kernel), ic_in 79 (by decide +kernel), ic_in 1189 (by decide +kernel), by decide +kernel, by decide +kernel⟩
def MX9_bearing : ic_Md := (yX9_bearing, cX9_bearing, 5, (some .int), { frames := 5, cells := 0, slots := 0, locals := 124 })
theorem mv_X9_bearing : ic_MV MX9_bearing := ⟨ic_in 1204 (by decide +kernel), ic_in 64 (by decide +kernel), ic_in 79 (by decide +kernel), ic_in 1205 (by decide +kernel), by decide +kernel, by decide +kernel⟩
def MX9_when : ic_Md := (yX9_when, cX9_when, 3, (some .int), { frames := 6, cells := 0, slots := 0, locals := 148 })
theorem mv_X9_when : ic_MV MX9_when := ⟨ic_in 1199 (by decide +kernel), ic_in 1200 (by decide +kernel), ic_in 79 (by decide +kernel), ic_in 1201 (by decide +kernel), by decide +kernel, by decide +kernel⟩
def MX9_noMore : ic_Md := (yX9_noMore, cX9_noMore, 3, (some .int), { frames := 6, cells := 0, slots := 0, locals := 148 })
theorem mv_X9_noMore : ic_MV MX9_noMore := ⟨ic_in 1207 (by decide +kernel), ic_in 1208 (by decide +kernel), ic_in 79 (by decide +kernel), ic_in 1209 (by decide +kernel), by decide +kernel, by decide +kernel⟩
def MX9_isSafe : ic_Md := (yX9_isSafe, cX9_isSafe, 3, (some .boolean), { frames := 3, cells := 0, slots := 0, locals := 73 })
theorem mv_X9_isSafe : ic_MV MX9_isSafe := ⟨ic_in 1220 (by decide +kernel), ic_in 66 (by decide +kernel), ic_in 79 (by decide +kernel), ic_in 1221 (by decide +kernel), by decide +kernel, by decide +kernel⟩
def MX9_measures : ic_Md := (yX9_measures, cX9_measures, 7, none, { frames := 4, cells := 0, slots := 0, locals := 95 })
theorem mv_X9_measures : ic_MV MX9_measures := ⟨ic_in 1216 (by decide +kernel), ic_in 65 (by decide +kernel), ic_in 79 (by decide +kernel), ic_in 1217 (by decide +kernel), by decide +kernel, by decide +kernel⟩
def MX9_over : ic_Md := (yX9_over, cX9_over, 5, (some .int), { frames := 5, cells := 0, slots := 0, locals := 121 })
theorem mv_X9_over : ic_MV MX9_over := ⟨ic_in 1211 (by decide +kernel), ic_in 1212 (by decide +kernel), ic_in 79 (by decide +kernel), ic_in 1213 (by decide +kernel), by decide +kernel, by decide +kernel⟩
def MX9_fewest : ic_Md := (yX9_fewest, cX9_fewest, 5, (some .int), { frames := 2, cells := 0, slots := 0, locals := 50 })
theorem mv_X9_fewest : ic_MV MX9_fewest := ⟨ic_in 1223 (by decide +kernel), ic_in 1224 (by decide +kernel), ic_in 79 (by decide +kernel), ic_in 1225 (by decide +kernel), by decide +kernel, by decide +kernel⟩
def MX9_leastSalt : ic_Md := (yX9_leastSalt, cX9_leastSalt, 4, (some .int), { frames := 2, cells := 0, slots := 0, locals := 50 })
theorem mv_X9_leastSalt : ic_MV MX9_leastSalt := ⟨ic_in 1230 (by decide +kernel), ic_in 1231 (by decide +kernel), ic_in 79 (by decide +kernel), ic_in 1232 (by decide +kernel), by decide +kernel, by decide +kernel⟩
def MX9_lives : ic_Md := (yX9_lives, cX9_lives, 7, (some .int), { frames := 5, cells := 0, slots := 0, locals := 122 })
theorem mv_X9_lives : ic_MV MX9_lives := ⟨ic_in 1234 (by decide +kernel), ic_in 1235 (by decide +kernel), ic_in 79 (by decide +kernel), ic_in 1236 (by decide +kernel), by decide +kernel, by decide +kernel⟩
theorem lkf_X9_220 : Cond.fieldLink RX9 220 RX9 (TX9 16).2.1 (TX9 16).2.2.1 ∈ ic_tb := ic_in 909 (by decide +kernel)
theorem lkc_X9_223 : Cond.constantLong RX9 223 (1103515245 : Int64) ∈ ic_tb := ic_in 1178 (by decide +kernel)
theorem lkc_X9_225 : Cond.constantLong RX9 225 (12345 : Int64) ∈ ic_tb := ic_in 1179 (by decide +kernel)
theorem lkc_X9_227 : Cond.constantLong RX9 227 (2147483647 : Int64) ∈ ic_tb := ic_in 1180 (by decide +kernel)
theorem lkc_X9_229 : Cond.constant RX9 229 (65536 : Int32) ∈ ic_tb := ic_in 1181 (by decide +kernel)
theorem lkm_X9_230 : Cond.methodLink RX9 230 yX9_draw ∈ ic_tb := ic_in 1174 (by decide +kernel)
theorem lkf_X9_38 : Cond.fieldLink RX9 38 RX9 (TX9 10).2.1 (TX9 10).2.2.1 ∈ ic_tb := ic_in 903 (by decide +kernel)
theorem lkm_X9_233 : Cond.methodLink RX9 233 yX9_tries ∈ ic_tb := ic_in 1194 (by decide +kernel)
theorem lkm_X9_236 : Cond.methodLink RX9 236 yX9_triesAlone ∈ ic_tb := ic_in 1190 (by decide +kernel)
theorem lkm_X9_239 : Cond.methodLink RX9 239 yX9_bearing ∈ ic_tb := ic_in 1202 (by decide +kernel)
theorem lkf_X9_60 : Cond.fieldLink RX9 60 RX9 (TX9 23).2.1 (TX9 23).2.2.1 ∈ ic_tb := ic_in 916 (by decide +kernel)
theorem lkm_X9_243 : Cond.methodLink RX9 243 yX9_isSafe ∈ ic_tb := ic_in 1218 (by decide +kernel)
theorem lkm_X9_246 : Cond.methodLink RX9 246 yX9_measures ∈ ic_tb := ic_in 1214 (by decide +kernel)
theorem lkm_X9_249 : Cond.methodLink RX9 249 yX9_ones ∈ ic_tb := ic_in 1226 (by decide +kernel)
def fX9_draw (μ : ic_M) (x1 : Int32) : Option (Int32 × ic_M) := ic_pu μ 90 16 (Int64.toInt32 ((((Int32.toInt64 (μ 90 16)) * (1103515245 : Int64)) + (12345 : Int64)) &&& (2147483647 : Int64))) (fun m21 => (if (65536 : Int32) = 0 then none else (if x1 = 0 then none else some ((((m21 90 16) / (65536 : Int32)) - ((m21 90 16) / (65536 : Int32)) / x1 * x1), m21))))
def lpX9_drift_18 (x1_ : Int32) : Nat → Int32 → ic_M → Option (ic_M)
  | 0, _, _ => none
  | fu + 1, y3_, μ => (if x1_ ≤ y3_ then some μ else ic_ag μ 92 7 (3 : Int32) (fun v23 => Option.bind (if v23 ≤ 0 then some μ else ic_ag μ 92 7 (3 : Int32) (fun v25 => Option.bind (fX9_draw μ v25) (fun q26 => Option.bind (fX9_cells q26.2) (fun v27 => Option.bind (fX9_draw q26.2 v27) (fun q28 => Option.bind (fX9_canGo q28.2 98 q26.1 q28.1) (fun v29 => (if v29 = 0 then some q28.2 else Option.bind (fX9_steps q28.2 98 q26.1 q28.1) (fun q30 => some q30.2)))))))) (fun q24 => Option.bind (fX9_draw q24 (4 : Int32)) (fun q31 => Option.bind (if q31.1 = 0 then ic_ag q31.2 98 28 (24 : Int32) (fun v33 => Option.bind (fX9_cells q31.2) (fun v34 => Option.bind (fX9_draw q31.2 v34) (fun q35 => ic_as q35.2 98 28 (24 : Int32) (v33 ||| ((1 : Int32) <<< (q35.1 &&& 31))) (fun m36 => some m36)))) else some q31.2) (fun q32 => Option.bind (fX9_passes q32 98) (fun m37 => ic_lt (y3_ + (1 : Int32)) (fun x38 => lpX9_drift_18 x1_ fu x38 m37)))))))
def fX9_drift (μ : ic_M) (x1 : Int32) : Option (Int32 × ic_M) := Option.bind (fX9_barred μ x1) (fun v21 => (if v21 = 0 then Option.bind (fX9_notes μ) (fun m22 => Option.bind (lpX9_drift_18 x1 1000 (0 : Int32) m22) (fun q39 => ic_ag q39 98 28 (27 : Int32) (fun v40 => some (v40, q39)))) else some (v21, μ)))
def fX9_undo (μ : ic_M) : Option (Int32 × ic_M) := (if (μ 90 12) = 0 then some ((-1000000003 : Int32), μ) else ic_pu μ 90 12 ((μ 90 12) - (1 : Int32)) (fun m21 => Option.bind (fX9_copies m21 100 ((28 : Int32) * (m21 90 12)) 98 (0 : Int32) (28 : Int32)) (fun m22 => some ((m22 90 12), m22))))
def fX9_tries (μ : ic_M) : Option (ic_M) := Option.bind (fX9_copies μ 98 (0 : Int32) 99 (0 : Int32) (28 : Int32)) (fun m21 => some m21)
def lpX9_triesAlone_6  : Nat → Int32 → ic_M → Option (ic_M)
  | 0, _, _ => none
  | fu + 1, y1_, μ => (if (6 : Int32) ≤ y1_ then some μ else ic_as μ 99 28 ((18 : Int32) + y1_) (-1 : Int32) (fun m22 => ic_lt (y1_ + (1 : Int32)) (fun x23 => lpX9_triesAlone_6  fu x23 m22)))
def fX9_triesAlone (μ : ic_M) : Option (ic_M) := Option.bind (fX9_tries μ) (fun m21 => Option.bind (lpX9_triesAlone_6  1000 (0 : Int32) m21) (fun q24 => some q24))
def lpX9_then_30 (x1_ : Int32) (x2_ : Int32) : Nat → Int32 → ic_M → Option (ic_M)
  | 0, _, _ => none
  | fu + 1, y3_, μ => (if x2_ ≤ y3_ then some μ else Option.bind (fX9_passes μ 99) (fun m24 => ic_lt (y3_ + (1 : Int32)) (fun x25 => lpX9_then_30 x1_ x2_ fu x25 m24)))
def fX9_then (μ : ic_M) (x1 : Int32) (x2 : Int32) : Option (Int32 × ic_M) := Option.bind (fX9_isCell μ x1) (fun v21 => (if v21 = 0 then some ((-1000000001 : Int32), μ) else Option.bind (fX9_in μ x2 (0 : Int32) (60 : Int32)) (fun v22 => (if v22 = 0 then some ((-1000000002 : Int32), μ) else Option.bind (fX9_triesAlone μ) (fun m23 => Option.bind (lpX9_then_30 x1 x2 1000 (0 : Int32) m23) (fun q26 => ic_ag q26 99 28 x1 (fun v27 => some (v27, q26))))))))
def lpX9_bearing_7 (x1_ : Int32) (x2_ : Int32) (x3_ : Int32) : Nat → Int32 → ic_M → Option ((ic_M) ⊕ (Int32 × ic_M))
  | 0, _, _ => none
  | fu + 1, y4_, μ => (if (61 : Int32) ≤ y4_ then some (.inl μ) else Option.bind (fX9_bearsOf μ 99 x1_) (fun v22 => Option.bind (if v22 < x2_ then some (0 : Int32) else some (1 : Int32)) (fun q23 => (if q23 = x3_ then some (.inr (y4_, μ)) else Option.bind (fX9_passes μ 99) (fun m24 => ic_lt (y4_ + (1 : Int32)) (fun x25 => lpX9_bearing_7 x1_ x2_ x3_ fu x25 m24))))))
def fX9_bearing (μ : ic_M) (x1 : Int32) (x2 : Int32) (x3 : Int32) : Option (Int32 × ic_M) := Option.bind (fX9_triesAlone μ) (fun m21 => Option.bind (lpX9_bearing_7 x1 x2 x3 1000 (0 : Int32) m21) (fun q26 => Sum.elim (fun t27 => some ((-1 : Int32), t27)) some q26))
def fX9_when (μ : ic_M) (x1 : Int32) (x2 : Int32) : Option (Int32 × ic_M) := Option.bind (fX9_isCell μ x1) (fun v21 => Option.bind (if v21 = 0 then some ((-1000000001 : Int32), μ) else Option.bind (fX9_in μ x2 (1 : Int32) (999 : Int32)) (fun v23 => (if v23 = 0 then some ((-1000000002 : Int32), μ) else Option.bind (fX9_bearing μ x1 x2 (1 : Int32)) (fun q24 => some (q24.1, q24.2))))) (fun q22 => some (q22.1, q22.2)))
def fX9_noMore (μ : ic_M) (x1 : Int32) (x2 : Int32) : Option (Int32 × ic_M) := Option.bind (fX9_isCell μ x1) (fun v21 => Option.bind (if v21 = 0 then some ((-1000000001 : Int32), μ) else Option.bind (fX9_in μ x2 (1 : Int32) (999 : Int32)) (fun v23 => (if v23 = 0 then some ((-1000000002 : Int32), μ) else Option.bind (fX9_bearing μ x1 x2 (0 : Int32)) (fun q24 => some (q24.1, q24.2))))) (fun q22 => some (q22.1, q22.2)))
def fX9_isSafe (μ : ic_M) (x1 : Int32) (x2 : Int32) : Option (Int32 × ic_M) := Option.bind (fX9_tries μ) (fun m21 => ic_as m21 99 28 ((18 : Int32) + x1) x2 (fun m22 => ic_ag m22 98 28 x2 (fun v23 => Option.bind (if v23 ≤ 0 then some (0 : Int32) else Option.bind (fX9_breaking m22 99) (fun v25 => (if v25 = 0 then some (1 : Int32) else some (0 : Int32)))) (fun q24 => ic_rz q24 (some (q24, m22))))))
def lpX9_measures_17 (x1_ : Int32) (x2_ : Int32) : Nat → Int32 → ic_M → Option (ic_M)
  | 0, _, _ => none
  | fu + 1, y3_, μ => Option.bind (fX9_cells μ) (fun v24 => (if v24 ≤ y3_ then some μ else ic_ag μ 92 7 (0 : Int32) (fun v25 => (if v25 = 0 then none else Option.bind (if (y3_ - y3_ / v25 * v25) = x2_ then some (0 : Int32) else some (99 : Int32)) (fun q26 => ic_as μ 106 18 y3_ q26 (fun m27 => ic_lt (y3_ + (1 : Int32)) (fun x28 => lpX9_measures_17 x1_ x2_ fu x28 m27)))))))
def lpX9_measures_80 (x1_ : Int32) (x3_ : Int32) (x4_ : Int32) : Nat → Int32 → ic_M → Option (ic_M)
  | 0, _, _ => none
  | fu + 1, y5_, μ => Option.bind (fX9_cells μ) (fun v32 => (if v32 ≤ y5_ then some μ else Option.bind (fX9_areNext μ x4_ y5_) (fun v33 => Option.bind (if v33 = 0 then some ((0 : Int32), μ) else ic_ag μ 106 18 y5_ (fun v35 => (if v35 = x3_ then ic_ag μ 106 18 x4_ (fun v36 => (if v36 ≤ (x3_ + (1 : Int32)) then some ((0 : Int32), μ) else Option.bind (fX9_isSafe μ x1_ y5_) (fun q37 => (if q37.1 = 0 then some ((0 : Int32), q37.2) else some ((1 : Int32), q37.2))))) else some ((0 : Int32), μ)))) (fun q34 => Option.bind (if q34.1 = 0 then ic_ag q34.2 106 18 x4_ (fun v39 => some v39) else some (x3_ + (1 : Int32))) (fun q38 => ic_as q34.2 106 18 x4_ q38 (fun m40 => ic_lt (y5_ + (1 : Int32)) (fun x41 => lpX9_measures_80 x1_ x3_ x4_ fu x41 m40)))))))
def lpX9_measures_68 (x1_ : Int32) (x3_ : Int32) : Nat → Int32 → ic_M → Option (ic_M)
  | 0, _, _ => none
  | fu + 1, y4_, μ => Option.bind (fX9_cells μ) (fun v31 => (if v31 ≤ y4_ then some μ else Option.bind (lpX9_measures_80 x1_ x3_ y4_ 1000 (0 : Int32) μ) (fun q42 => ic_lt (y4_ + (1 : Int32)) (fun x43 => lpX9_measures_68 x1_ x3_ fu x43 q42))))
def lpX9_measures_57 (x1_ : Int32) : Nat → Int32 → ic_M → Option (ic_M)
  | 0, _, _ => none
  | fu + 1, y3_, μ => Option.bind (fX9_cells μ) (fun v30 => (if v30 ≤ y3_ then some μ else Option.bind (lpX9_measures_68 x1_ y3_ 1000 (0 : Int32) μ) (fun q44 => ic_lt (y3_ + (1 : Int32)) (fun x45 => lpX9_measures_57 x1_ fu x45 q44))))
def fX9_measures (μ : ic_M) (x1 : Int32) : Option (ic_M) := ic_ag μ 92 7 (0 : Int32) (fun v21 => Option.bind (fX9_columnOf μ x1) (fun v22 => ic_lt (((v21 - (1 : Int32)) - v22)) (fun x23 => Option.bind (lpX9_measures_17 x1 x23 1000 (0 : Int32) μ) (fun q29 => Option.bind (lpX9_measures_57 x1 1000 (0 : Int32) q29) (fun q46 => some q46)))))
def lpX9_over_89 (x1_ : Int32) (x2_ : Int32) : Nat → Int32 → Int32 → ic_M → Option (Int32 × ic_M)
  | 0, _, _, _ => none
  | fu + 1, y3_, y4_, μ => Option.bind (fX9_cells μ) (fun v26 => (if v26 ≤ y4_ then some (y3_, μ) else Option.bind (fX9_canGo μ 98 x1_ y4_) (fun v27 => Option.bind (if v27 = 0 then some (y3_, μ) else ic_ag μ 106 18 y4_ (fun v29 => (if (99 : Int32) ≤ v29 then some (y3_, μ) else Option.bind (fX9_isSafe μ x1_ y4_) (fun q30 => (if q30.1 = 0 then some (y3_, q30.2) else (if y3_ = (-1 : Int32) then some (y4_, q30.2) else ic_ag q30.2 106 18 y4_ (fun v31 => ic_ag q30.2 106 18 y3_ (fun v32 => (if v32 ≤ v31 then some (y3_, q30.2) else some (y4_, q30.2)))))))))) (fun q28 => ic_lt (y4_ + (1 : Int32)) (fun x33 => lpX9_over_89 x1_ x2_ fu q28.1 x33 q28.2)))))
def fX9_over (μ : ic_M) (x1 : Int32) (x2 : Int32) : Option (Int32 × ic_M) := Option.bind (fX9_isPerson μ x1) (fun v21 => (if v21 = 0 then some ((-1000000001 : Int32), μ) else Option.bind (fX9_in μ x2 (0 : Int32) (1 : Int32)) (fun v22 => (if v22 = 0 then some ((-1000000002 : Int32), μ) else ic_ag μ 98 28 ((18 : Int32) + x1) (fun v23 => (if v23 = (-2 : Int32) then some ((-1000000003 : Int32), μ) else Option.bind (fX9_measures μ x1) (fun m24 => ic_ag m24 98 28 ((18 : Int32) + x1) (fun v25 => (if v25 < 0 then Option.bind (lpX9_over_89 x1 x2 1000 (-1 : Int32) (0 : Int32) m24) (fun q34 => Option.bind (if q34.1 = (-1 : Int32) then some q34.1 else (if x2 = (1 : Int32) then some q34.1 else ic_ag q34.2 106 18 q34.1 (fun v36 => some (v36 + (1 : Int32))))) (fun q35 => some (q35, q34.2))) else ic_ag m24 98 28 ((18 : Int32) + x1) (fun v37 => ic_ag m24 106 18 v37 (fun v38 => (if v38 = 0 then Option.bind (if x2 = 0 then some (0 : Int32) else some (-1 : Int32)) (fun q50 => some (q50, m24)) else Option.bind (lpX9_over_89 x1 x2 1000 (-1 : Int32) (0 : Int32) m24) (fun q47 => Option.bind (if q47.1 = (-1 : Int32) then some q47.1 else (if x2 = (1 : Int32) then some q47.1 else ic_ag q47.2 106 18 q47.1 (fun v49 => some (v49 + (1 : Int32))))) (fun q48 => some (q48, q47.2)))))))))))))))
def lpX9_fewest_77 (x1_ : Int32) (x2_ : Int32) (x3_ : Int32) : Nat → Int32 → ic_M → Option (ic_M)
  | 0, _, _ => none
  | fu + 1, y4_, μ => ic_ag μ 92 7 (3 : Int32) (fun v27 => (if v27 ≤ y4_ then some μ else Option.bind (fX9_has μ x3_ y4_) (fun v28 => Option.bind (if v28 = 0 then ic_ag μ 98 28 ((18 : Int32) + y4_) (fun v30 => some v30) else some x1_) (fun q29 => ic_as μ 99 28 ((18 : Int32) + y4_) q29 (fun m31 => ic_lt (y4_ + (1 : Int32)) (fun x32 => lpX9_fewest_77 x1_ x2_ x3_ fu x32 m31))))))
def lpX9_fewest_27 (x1_ : Int32) : Nat → Int32 → Int32 → ic_M → Option (Int32 × ic_M)
  | 0, _, _, _ => none
  | fu + 1, y2_, y3_, μ => ic_ag μ 92 7 (3 : Int32) (fun v23 => (if ((1 : Int32) <<< (v23 &&& 31)) ≤ y3_ then some (y2_, μ) else Option.bind (fX9_onCell μ 98 (-2 : Int32)) (fun v24 => Option.bind (if (y3_ &&& v24) = 0 then (if y2_ = (-1 : Int32) then Option.bind (fX9_tries μ) (fun m26 => Option.bind (lpX9_fewest_77 x1_ y2_ y3_ 1000 (0 : Int32) m26) (fun q33 => Option.bind (fX9_loadOf q33 99 x1_) (fun v34 => Option.bind (fX9_bearsOf q33 99 x1_) (fun v35 => Option.bind (if v34 ≤ v35 then some y2_ else some y3_) (fun q36 => some (q36, q33)))))) else Option.bind (fX9_ones μ y3_) (fun v37 => Option.bind (fX9_ones μ y2_) (fun v38 => (if v38 ≤ v37 then some (y2_, μ) else Option.bind (fX9_tries μ) (fun m39 => Option.bind (lpX9_fewest_77 x1_ y2_ y3_ 1000 (0 : Int32) m39) (fun q46 => Option.bind (fX9_loadOf q46 99 x1_) (fun v47 => Option.bind (fX9_bearsOf q46 99 x1_) (fun v48 => Option.bind (if v47 ≤ v48 then some y2_ else some y3_) (fun q49 => some (q49, q46)))))))))) else some (y2_, μ)) (fun q25 => ic_lt (y3_ + (1 : Int32)) (fun x50 => lpX9_fewest_27 x1_ fu q25.1 x50 q25.2)))))
def fX9_fewest (μ : ic_M) (x1 : Int32) : Option (Int32 × ic_M) := Option.bind (fX9_isCell μ x1) (fun v21 => (if v21 = 0 then some ((-1000000001 : Int32), μ) else ic_ag μ 98 28 x1 (fun v22 => (if v22 = 0 then some ((-1000000003 : Int32), μ) else Option.bind (lpX9_fewest_27 x1 1000 (-1 : Int32) (0 : Int32) μ) (fun q51 => some (q51.1, q51.2))))))
def lpX9_leastSalt_23 (μ : ic_M) (x1_ : Int32) (x2_ : Int32) : Nat → Int32 → Option ((Unit) ⊕ (Int32))
  | 0, _ => none
  | fu + 1, y3_ => ic_ag μ 98 28 x1_ (fun v23 => (if v23 < y3_ then some (.inl ()) else ic_ag μ 92 7 (2 : Int32) (fun v24 => ic_ag μ 98 28 x1_ (fun v25 => (if (v24 * (v25 - y3_)) < x2_ then some (.inr y3_) else ic_ag μ 98 28 x1_ (fun v26 => (if y3_ = v26 then some (.inr y3_) else ic_lt (y3_ + (1 : Int32)) (fun x27 => lpX9_leastSalt_23 μ x1_ x2_ fu x27))))))))
def fX9_leastSalt (μ : ic_M) (x1 : Int32) : Option (Int32) := Option.bind (fX9_isCell μ x1) (fun v21 => (if v21 = 0 then some (-1000000001 : Int32) else Option.bind (fX9_loadOf μ 98 x1) (fun v22 => Option.bind (lpX9_leastSalt_23 μ x1 v22 1000 (1 : Int32)) (fun q28 => Sum.elim (fun t29 => some (-1 : Int32)) some q28))))
def lpX9_lives_45 (x1_ : Int32) (x2_ : Int32) : Nat → Int32 → Int32 → ic_M → Option (Int32 × ic_M)
  | 0, _, _, _ => none
  | fu + 1, y3_, y4_, μ => Option.bind (fX9_cells μ) (fun v24 => (if v24 ≤ y4_ then some (y3_, μ) else Option.bind (fX9_canGo μ 98 x1_ y4_) (fun v25 => Option.bind (if v25 = 0 then some (y3_, μ) else Option.bind (fX9_tries μ) (fun m27 => Option.bind (fX9_steps m27 99 x1_ y4_) (fun q28 => Option.bind (if q28.1 ≤ 0 then some (0 : Int32) else some (1 : Int32)) (fun q29 => ic_ag q28.2 99 28 ((18 : Int32) + x1_) (fun v30 => Option.bind (if v30 = (-2 : Int32) then some (1 : Int32) else some (0 : Int32)) (fun q31 => Option.bind (if x2_ = 0 then (if q29 = 0 then (if x2_ = (1 : Int32) then (if q31 = 0 then some (0 : Int32) else some ((1 : Int32) <<< (y4_ &&& 31))) else some (0 : Int32)) else (if q31 = 0 then some ((1 : Int32) <<< (y4_ &&& 31)) else (if x2_ = (1 : Int32) then (if q31 = 0 then some (0 : Int32) else some ((1 : Int32) <<< (y4_ &&& 31))) else some (0 : Int32)))) else (if x2_ = (1 : Int32) then (if q31 = 0 then some (0 : Int32) else some ((1 : Int32) <<< (y4_ &&& 31))) else some (0 : Int32))) (fun q32 => ic_lt ((y3_ ||| q32)) (fun x33 => some (x33, q28.2))))))))) (fun q26 => ic_lt (y4_ + (1 : Int32)) (fun x34 => lpX9_lives_45 x1_ x2_ fu q26.1 x34 q26.2)))))
def fX9_lives (μ : ic_M) (x1 : Int32) (x2 : Int32) : Option (Int32 × ic_M) := Option.bind (fX9_isPerson μ x1) (fun v21 => (if v21 = 0 then some ((-1000000001 : Int32), μ) else Option.bind (fX9_in μ x2 (0 : Int32) (1 : Int32)) (fun v22 => (if v22 = 0 then some ((-1000000002 : Int32), μ) else ic_ag μ 98 28 ((18 : Int32) + x1) (fun v23 => (if v23 = (-2 : Int32) then some ((-1000000003 : Int32), μ) else Option.bind (lpX9_lives_45 x1 x2 1000 (0 : Int32) (0 : Int32) μ) (fun q35 => some (q35.1, q35.2))))))))
set_option maxRecDepth 100000 in
set_option maxHeartbeats 4000000 in
theorem ct_X9_draw (l : Launch) (κ : ic_K) (sw : Nat) (μ : ic_M) (x1 : Int32) {R : Int32 × ic_M} (hf : fX9_draw μ x1 = some R) : ic_C l κ MX9_draw [ic_rv κ.1 90, .int x1] 106 (ic_rs sw) μ (some (.int R.1)) 106 (ic_rs sw) R.2 := by
  refine ic_C.of (L := [(0, ic_rv κ.1 90), (1, .int x1)]) ⟨ic_cat _ _, rfl, trivial⟩ ⟨by decide +kernel, Nat.le_of_ble_eq_true rfl⟩ rfl ?_
  unfold fX9_draw at hf
  refine iw_aload_n (i := 0) (pc' := 1) 0 rfl (by decide +kernel) ?_
  refine iw_aload_n (i := 0) (pc' := 2) 0 rfl (by decide +kernel) ?_
  refine iw_geti (pc' := 5) ic_fk9 cO_90 lkf_X9_220 (by decide +kernel) ?_
  refine iw_i2l (pc' := 6) (by decide +kernel) ?_
  refine iw_ldc2 (pc' := 9) lkc_X9_223 (by decide +kernel) ?_
  refine iw_lmul (pc' := 10) (by decide +kernel) ?_
  refine iw_ldc2 (pc' := 13) lkc_X9_225 (by decide +kernel) ?_
  refine iw_ladd (pc' := 14) (by decide +kernel) ?_
  refine iw_ldc2 (pc' := 17) lkc_X9_227 (by decide +kernel) ?_
  refine iw_land (pc' := 18) (by decide +kernel) ?_
  refine iw_l2i (pc' := 19) (by decide +kernel) ?_
  refine iw_put (pc' := 22) hf ic_fk9 cO_90 lkf_X9_220 (by decide +kernel) (fun m21 hf => ?_)
  refine iw_aload_n (i := 0) (pc' := 23) 0 rfl (by decide +kernel) ?_
  refine iw_geti (pc' := 26) ic_fk9 cO_90 lkf_X9_220 (by decide +kernel) ?_
  refine iw_ldc (pc' := 28) lkc_X9_229 (by decide +kernel) ?_
  refine iw_idiv (pc' := 29) hf (by decide +kernel) (fun hf => ?_)
  refine iw_iload_n (i := 1) (pc' := 30) 1 rfl (by decide +kernel) ?_
  refine iw_irem (pc' := 31) hf (by decide +kernel) (fun hf => ?_)
  exact iw_ireturn (ic_q1 (Option.some.inj hf)) rfl (ic_q2 (Option.some.inj hf)) (by decide +kernel)
set_option maxRecDepth 100000 in
set_option maxHeartbeats 4000000 in
theorem lpX9_drift_18_ok (l : Launch) (κ : ic_K) (sw : Nat) (x1_ : Int32) {Z : State → List Frame → Array Value → State → Prop} {R : ic_M} (hk : ic_W l κ MX9_drift ic_X0 Z 124 [(0, ic_rv κ.1 90)] [] 106 (ic_rs sw) R 0 0) : ∀ (fu : Nat) (y3_ : Int32) (μ : ic_M), lpX9_drift_18 x1_ fu y3_ μ = some R → ic_W l κ MX9_drift ic_X0 Z 18 [(0, ic_rv κ.1 90), (1, .int x1_), (3, .int y3_)] [] 106 (ic_rs sw) μ 0 0 := by
  intro fu
  induction fu with
  | zero =>
    intro y3_ μ hf
    exact absurd hf (by simp [lpX9_drift_18])
  | succ fu ih =>
    intro y3_ μ hf
    rw [lpX9_drift_18] at hf
    refine iw_iload_n (i := 3) (pc' := 19) 2 rfl (by decide +kernel) ?_
    refine iw_iload_n (i := 1) (pc' := 20) 1 rfl (by decide +kernel) ?_
    refine iw_icmp_ge (off := 104) (tg := 124) (pc' := 23) hf (by decide +kernel) (fun hf => ?_) (fun hf => ?_)
    · obtain rfl := Option.some.inj hf
      exact iw_sub [0] rfl hk
    · refine iw_aload_n (i := 0) (pc' := 24) 0 rfl (by decide +kernel) ?_
      refine iw_getr (pc' := 27) (q := 92) ic_fk9 cO_90 rfl lkf_X9_17 (by decide +kernel) ?_
      refine iw_iconst (i := 3) (v := (3 : Int32)) (pc' := 28) (by decide +kernel) ?_
      refine iw_iald (pc' := 29) hf (fun _ => cI_92) (by decide +kernel) (fun v23 hf => ?_)
      obtain ⟨q24, hf, hgq24⟩ := ic_bd hf
      have hjq24 : ic_W l κ MX9_drift ic_X0 Z 82 [(0, ic_rv κ.1 90), (1, .int x1_), (3, .int y3_)] [] 106 (ic_rs sw) q24 0 0 := by
        have hf := hgq24
        refine iw_aload_n (i := 0) (pc' := 83) 0 rfl (by decide +kernel) ?_
        refine iw_iconst (i := 4) (v := (4 : Int32)) (pc' := 84) (by decide +kernel) ?_
        obtain ⟨q31, hc, hf⟩ := ic_bd hf
        refine iw_callV (pc' := 87) (S0 := []) (S1 := [.int q31.1]) (c1 := 0) (s1 := 0) (k := 1) (ct_X9_draw l κ sw q24 (4 : Int32) hc) cO_90 ⟨rfl, rfl⟩ mv_X9_draw lkm_X9_230 ⟨rfl, rfl⟩ (ic_sum8 trivial (Nat.le_of_ble_eq_true rfl)) (by unfold ic_rm; decide +kernel) ⟨rfl, rfl, rfl⟩ ⟨Nat.le_of_ble_eq_true rfl, Nat.le_of_ble_eq_true rfl⟩ ?_
        obtain ⟨q32, hf, hgq32⟩ := ic_bd hf
        have hjq32 : ic_W l κ MX9_drift ic_X0 Z 110 [(0, ic_rv κ.1 90), (1, .int x1_), (3, .int y3_)] [] 106 (ic_rs sw) q32 0 0 := by
          have hf := hgq32
          refine iw_aload_n (i := 0) (pc' := 111) 0 rfl (by decide +kernel) ?_
          refine iw_aload_n (i := 0) (pc' := 112) 0 rfl (by decide +kernel) ?_
          refine iw_getr (pc' := 115) (q := 98) ic_fk9 cO_90 rfl lkf_X9_35 (by decide +kernel) ?_
          obtain ⟨m37, hc, hf⟩ := ic_bd hf
          refine iw_callV (pc' := 118) (S0 := []) (S1 := []) (c1 := 0) (s1 := 0) (k := 1) (ct_X9_passes l κ sw q32 98 hc) cO_90 ⟨rfl, rfl⟩ mv_X9_passes lkm_X9_209 ⟨rfl, rfl⟩ (ic_sum8 trivial (Nat.le_of_ble_eq_true rfl)) (by unfold ic_rm; decide +kernel) ⟨rfl, rfl, rfl⟩ ⟨Nat.le_of_ble_eq_true rfl, Nat.le_of_ble_eq_true rfl⟩ ?_
          refine iw_iinc (i := 3) (d := 1) (pc' := 121) (v := (1 : Int32)) (L1 := fun x38 => [(0, ic_rv κ.1 90), (1, .int x1_), (3, .int x38)]) hf 2 rfl (fun _ => rfl) (by decide +kernel) (fun x38 hf => ?_)
          refine iw_goto (off := (-103)) (pc' := 18) (by decide +kernel) ?_
          exact iw_sub [0, 1, 2] rfl (ih _ _ hf)
        refine iw_if_ne (off := 23) (tg := 110) (pc' := 90) hf (by decide +kernel) (fun hf => ?_) (fun hf => ?_)
        · obtain rfl := Option.some.inj hf
          exact iw_sub [0, 1, 2] rfl hjq32
        · refine iw_aload_n (i := 0) (pc' := 91) 0 rfl (by decide +kernel) ?_
          refine iw_getr (pc' := 94) (q := 98) ic_fk9 cO_90 rfl lkf_X9_35 (by decide +kernel) ?_
          refine iw_bipush (i := 24) (v := (24 : Int32)) (pc' := 96) (by decide +kernel) ?_
          refine iw_dup2 (pc' := 97) rfl (ic_cat _ _) (by decide +kernel) ?_
          refine iw_iald (pc' := 98) hf (fun _ => cI_98) (by decide +kernel) (fun v33 hf => ?_)
          refine iw_iconst (i := 1) (v := (1 : Int32)) (pc' := 99) (by decide +kernel) ?_
          refine iw_aload_n (i := 0) (pc' := 100) 0 rfl (by decide +kernel) ?_
          refine iw_aload_n (i := 0) (pc' := 101) 0 rfl (by decide +kernel) ?_
          obtain ⟨v34, hc, hf⟩ := ic_bd hf
          refine iw_callV (pc' := 104) (S0 := [ic_rv κ.1 90, .int (1 : Int32), .int v33, .int (24 : Int32), ic_rv κ.1 98]) (S1 := [.int v34, ic_rv κ.1 90, .int (1 : Int32), .int v33, .int (24 : Int32), ic_rv κ.1 98]) (c1 := 0) (s1 := 0) (k := 0) (ct_X9_cells l κ sw q31.2 hc) cO_90 ⟨rfl, rfl⟩ mv_X9_cells lkm_X9_120 ⟨rfl, rfl⟩ (ic_sum8 ⟨ic_cat _ _, rfl, rfl, rfl, ic_cat _ _, trivial⟩ (Nat.le_of_ble_eq_true rfl)) (by unfold ic_rm; decide +kernel) ⟨rfl, rfl, rfl⟩ ⟨Nat.le_of_ble_eq_true rfl, Nat.le_of_ble_eq_true rfl⟩ ?_
          obtain ⟨q35, hc, hf⟩ := ic_bd hf
          refine iw_callV (pc' := 107) (S0 := [.int (1 : Int32), .int v33, .int (24 : Int32), ic_rv κ.1 98]) (S1 := [.int q35.1, .int (1 : Int32), .int v33, .int (24 : Int32), ic_rv κ.1 98]) (c1 := 0) (s1 := 0) (k := 1) (ct_X9_draw l κ sw q31.2 v34 hc) cO_90 ⟨rfl, rfl⟩ mv_X9_draw lkm_X9_230 ⟨rfl, rfl⟩ (ic_sum8 ⟨rfl, rfl, rfl, ic_cat _ _, trivial⟩ (Nat.le_of_ble_eq_true rfl)) (by unfold ic_rm; decide +kernel) ⟨rfl, rfl, rfl⟩ ⟨Nat.le_of_ble_eq_true rfl, Nat.le_of_ble_eq_true rfl⟩ ?_
          refine iw_ishl (pc' := 108) (by decide +kernel) ?_
          refine iw_ior (pc' := 109) (by decide +kernel) ?_
          refine iw_iast (pc' := 110) hf (fun _ => cI_98) (by decide +kernel) (fun m36 hf => ?_)
          obtain rfl := Option.some.inj hf
          exact iw_sub [0, 1, 2] rfl hjq32
      refine iw_if_le (off := 53) (tg := 82) (pc' := 32) hf (by decide +kernel) (fun hf => ?_) (fun hf => ?_)
      · obtain rfl := Option.some.inj hf
        exact iw_sub [0, 1, 2] rfl hjq24
      · refine iw_aload_n (i := 0) (pc' := 33) 0 rfl (by decide +kernel) ?_
        refine iw_aload_n (i := 0) (pc' := 34) 0 rfl (by decide +kernel) ?_
        refine iw_getr (pc' := 37) (q := 92) ic_fk9 cO_90 rfl lkf_X9_17 (by decide +kernel) ?_
        refine iw_iconst (i := 3) (v := (3 : Int32)) (pc' := 38) (by decide +kernel) ?_
        refine iw_iald (pc' := 39) hf (fun _ => cI_92) (by decide +kernel) (fun v25 hf => ?_)
        obtain ⟨q26, hc, hf⟩ := ic_bd hf
        refine iw_callV (pc' := 42) (S0 := []) (S1 := [.int q26.1]) (c1 := 0) (s1 := 0) (k := 1) (ct_X9_draw l κ sw μ v25 hc) cO_90 ⟨rfl, rfl⟩ mv_X9_draw lkm_X9_230 ⟨rfl, rfl⟩ (ic_sum8 trivial (Nat.le_of_ble_eq_true rfl)) (by unfold ic_rm; decide +kernel) ⟨rfl, rfl, rfl⟩ ⟨Nat.le_of_ble_eq_true rfl, Nat.le_of_ble_eq_true rfl⟩ ?_
        refine iw_istore0 (i := 4) (pc' := 44) (L' := [(0, ic_rv κ.1 90), (1, .int x1_), (3, .int y3_), (4, .int q26.1)]) rfl (by decide +kernel) ?_
        refine iw_aload_n (i := 0) (pc' := 45) 0 rfl (by decide +kernel) ?_
        refine iw_aload_n (i := 0) (pc' := 46) 0 rfl (by decide +kernel) ?_
        obtain ⟨v27, hc, hf⟩ := ic_bd hf
        refine iw_callV (pc' := 49) (S0 := [ic_rv κ.1 90]) (S1 := [.int v27, ic_rv κ.1 90]) (c1 := 0) (s1 := 0) (k := 0) (ct_X9_cells l κ sw q26.2 hc) cO_90 ⟨rfl, rfl⟩ mv_X9_cells lkm_X9_120 ⟨rfl, rfl⟩ (ic_sum8 ⟨ic_cat _ _, trivial⟩ (Nat.le_of_ble_eq_true rfl)) (by unfold ic_rm; decide +kernel) ⟨rfl, rfl, rfl⟩ ⟨Nat.le_of_ble_eq_true rfl, Nat.le_of_ble_eq_true rfl⟩ ?_
        obtain ⟨q28, hc, hf⟩ := ic_bd hf
        refine iw_callV (pc' := 52) (S0 := []) (S1 := [.int q28.1]) (c1 := 0) (s1 := 0) (k := 1) (ct_X9_draw l κ sw q26.2 v27 hc) cO_90 ⟨rfl, rfl⟩ mv_X9_draw lkm_X9_230 ⟨rfl, rfl⟩ (ic_sum8 trivial (Nat.le_of_ble_eq_true rfl)) (by unfold ic_rm; decide +kernel) ⟨rfl, rfl, rfl⟩ ⟨Nat.le_of_ble_eq_true rfl, Nat.le_of_ble_eq_true rfl⟩ ?_
        refine iw_istore0 (i := 5) (pc' := 54) (L' := [(0, ic_rv κ.1 90), (1, .int x1_), (3, .int y3_), (4, .int q26.1), (5, .int q28.1)]) rfl (by decide +kernel) ?_
        refine iw_aload_n (i := 0) (pc' := 55) 0 rfl (by decide +kernel) ?_
        refine iw_aload_n (i := 0) (pc' := 56) 0 rfl (by decide +kernel) ?_
        refine iw_getr (pc' := 59) (q := 98) ic_fk9 cO_90 rfl lkf_X9_35 (by decide +kernel) ?_
        refine iw_iload (i := 4) (pc' := 61) 3 rfl (by decide +kernel) ?_
        refine iw_iload (i := 5) (pc' := 63) 4 rfl (by decide +kernel) ?_
        obtain ⟨v29, hc, hf⟩ := ic_bd hf
        refine iw_callV (pc' := 66) (S0 := []) (S1 := [.int v29]) (c1 := 0) (s1 := 0) (k := 3) (ct_X9_canGo l κ sw q28.2 98 q26.1 q28.1 hc) cO_90 ⟨rfl, rfl⟩ mv_X9_canGo lkm_X9_212 ⟨rfl, rfl⟩ (ic_sum8 trivial (Nat.le_of_ble_eq_true rfl)) (by unfold ic_rm; decide +kernel) ⟨rfl, rfl, rfl⟩ ⟨Nat.le_of_ble_eq_true rfl, Nat.le_of_ble_eq_true rfl⟩ ?_
        refine iw_if_eq (off := 16) (tg := 82) (pc' := 69) hf (by decide +kernel) (fun hf => ?_) (fun hf => ?_)
        · obtain rfl := Option.some.inj hf
          exact iw_sub [0, 1, 2] rfl hjq24
        · refine iw_aload_n (i := 0) (pc' := 70) 0 rfl (by decide +kernel) ?_
          refine iw_aload_n (i := 0) (pc' := 71) 0 rfl (by decide +kernel) ?_
          refine iw_getr (pc' := 74) (q := 98) ic_fk9 cO_90 rfl lkf_X9_35 (by decide +kernel) ?_
          refine iw_iload (i := 4) (pc' := 76) 3 rfl (by decide +kernel) ?_
          refine iw_iload (i := 5) (pc' := 78) 4 rfl (by decide +kernel) ?_
          obtain ⟨q30, hc, hf⟩ := ic_bd hf
          refine iw_callV (pc' := 81) (S0 := []) (S1 := [.int q30.1]) (c1 := 0) (s1 := 0) (k := 3) (ct_X9_steps l κ sw q28.2 98 q26.1 q28.1 hc) cO_90 ⟨rfl, rfl⟩ mv_X9_steps lkm_X9_216 ⟨rfl, rfl⟩ (ic_sum8 trivial (Nat.le_of_ble_eq_true rfl)) (by unfold ic_rm; decide +kernel) ⟨rfl, rfl, rfl⟩ ⟨Nat.le_of_ble_eq_true rfl, Nat.le_of_ble_eq_true rfl⟩ ?_
          refine iw_pop (pc' := 82) rfl (by decide +kernel) ?_
          obtain rfl := Option.some.inj hf
          exact iw_sub [0, 1, 2] rfl hjq24
set_option maxRecDepth 100000 in
set_option maxHeartbeats 4000000 in
theorem ct_X9_drift (l : Launch) (κ : ic_K) (sw : Nat) (μ : ic_M) (x1 : Int32) {R : Int32 × ic_M} (hf : fX9_drift μ x1 = some R) : ic_C l κ MX9_drift [ic_rv κ.1 90, .int x1] 106 (ic_rs sw) μ (some (.int R.1)) 106 (ic_rs sw) R.2 := by
  refine ic_C.of (L := [(0, ic_rv κ.1 90), (1, .int x1)]) ⟨ic_cat _ _, rfl, trivial⟩ ⟨by decide +kernel, Nat.le_of_ble_eq_true rfl⟩ rfl ?_
  unfold fX9_drift at hf
  refine iw_aload_n (i := 0) (pc' := 1) 0 rfl (by decide +kernel) ?_
  refine iw_iload_n (i := 1) (pc' := 2) 1 rfl (by decide +kernel) ?_
  obtain ⟨v21, hc, hf⟩ := ic_bd hf
  refine iw_callV (pc' := 5) (S0 := []) (S1 := [.int v21]) (c1 := 0) (s1 := 0) (k := 1) (ct_X9_barred l κ sw μ x1 hc) cO_90 ⟨rfl, rfl⟩ mv_X9_barred lkm_X9_203 ⟨rfl, rfl⟩ (ic_sum8 trivial (Nat.le_of_ble_eq_true rfl)) (by unfold ic_rm; decide +kernel) ⟨rfl, rfl, rfl⟩ ⟨Nat.le_of_ble_eq_true rfl, Nat.le_of_ble_eq_true rfl⟩ ?_
  refine iw_istore_n0 (i := 2) (pc' := 6) (L' := [(0, ic_rv κ.1 90), (1, .int x1), (2, .int v21)]) rfl (by decide +kernel) ?_
  refine iw_iload_n (i := 2) (pc' := 7) 2 rfl (by decide +kernel) ?_
  refine iw_if_eq (off := 5) (tg := 12) (pc' := 10) hf (by decide +kernel) (fun hf => ?_) (fun hf => ?_)
  · refine iw_aload_n (i := 0) (pc' := 13) 0 rfl (by decide +kernel) ?_
    obtain ⟨m22, hc, hf⟩ := ic_bd hf
    refine iw_callV (pc' := 16) (S0 := []) (S1 := []) (c1 := 0) (s1 := 0) (k := 0) (ct_X9_notes l κ sw μ hc) cO_90 ⟨rfl, rfl⟩ mv_X9_notes lkm_X9_206 ⟨rfl, rfl⟩ (ic_sum8 trivial (Nat.le_of_ble_eq_true rfl)) (by unfold ic_rm; decide +kernel) ⟨rfl, rfl, rfl⟩ ⟨Nat.le_of_ble_eq_true rfl, Nat.le_of_ble_eq_true rfl⟩ ?_
    refine iw_iconst (i := 0) (v := (0 : Int32)) (pc' := 17) (by decide +kernel) ?_
    refine iw_istore_n0 (i := 3) (pc' := 18) (L' := [(0, ic_rv κ.1 90), (1, .int x1), (2, .int v21), (3, .int (0 : Int32))]) rfl (by decide +kernel) ?_
    obtain ⟨q39, hf, hgq39⟩ := ic_bd hf
    have hjq39 : ic_W l κ MX9_drift ic_X0 (ic_Z κ MX9_drift (some (.int R.1)) 106 (ic_rs sw) R.2) 124 [(0, ic_rv κ.1 90)] [] 106 (ic_rs sw) q39 0 0 := by
      have hf := hgq39
      refine iw_aload_n (i := 0) (pc' := 125) 0 rfl (by decide +kernel) ?_
      refine iw_getr (pc' := 128) (q := 98) ic_fk9 cO_90 rfl lkf_X9_35 (by decide +kernel) ?_
      refine iw_bipush (i := 27) (v := (27 : Int32)) (pc' := 130) (by decide +kernel) ?_
      refine iw_iald (pc' := 131) hf (fun _ => cI_98) (by decide +kernel) (fun v40 hf => ?_)
      exact iw_ireturn (ic_q1 (Option.some.inj hf)) rfl (ic_q2 (Option.some.inj hf)) (by decide +kernel)
    exact iw_sub [0, 1, 3] rfl (lpX9_drift_18_ok l κ sw x1 hjq39 1000 (0 : Int32) m22 hf)
  · refine iw_iload_n (i := 2) (pc' := 11) 2 rfl (by decide +kernel) ?_
    exact iw_ireturn (ic_q1 (Option.some.inj hf)) rfl (ic_q2 (Option.some.inj hf)) (by decide +kernel)
set_option maxRecDepth 100000 in
set_option maxHeartbeats 4000000 in
theorem ct_X9_undo (l : Launch) (κ : ic_K) (sw : Nat) (μ : ic_M) {R : Int32 × ic_M} (hf : fX9_undo μ = some R) : ic_C l κ MX9_undo [ic_rv κ.1 90] 106 (ic_rs sw) μ (some (.int R.1)) 106 (ic_rs sw) R.2 := by
  refine ic_C.of (L := [(0, ic_rv κ.1 90)]) ⟨ic_cat _ _, trivial⟩ ⟨by decide +kernel, Nat.le_of_ble_eq_true rfl⟩ rfl ?_
  unfold fX9_undo at hf
  refine iw_aload_n (i := 0) (pc' := 1) 0 rfl (by decide +kernel) ?_
  refine iw_geti (pc' := 4) ic_fk9 cO_90 lkf_X9_123 (by decide +kernel) ?_
  refine iw_if_ne (off := 6) (tg := 10) (pc' := 7) hf (by decide +kernel) (fun hf => ?_) (fun hf => ?_)
  · refine iw_aload_n (i := 0) (pc' := 11) 0 rfl (by decide +kernel) ?_
    refine iw_dup (pc' := 12) (ic_cat _ _) (by decide +kernel) ?_
    refine iw_geti (pc' := 15) ic_fk9 cO_90 lkf_X9_123 (by decide +kernel) ?_
    refine iw_iconst (i := 1) (v := (1 : Int32)) (pc' := 16) (by decide +kernel) ?_
    refine iw_isub (pc' := 17) (by decide +kernel) ?_
    refine iw_put (pc' := 20) hf ic_fk9 cO_90 lkf_X9_123 (by decide +kernel) (fun m21 hf => ?_)
    refine iw_aload_n (i := 0) (pc' := 21) 0 rfl (by decide +kernel) ?_
    refine iw_getr (pc' := 24) (q := 100) ic_fk9 cO_90 rfl lkf_X9_41 (by decide +kernel) ?_
    refine iw_bipush (i := 28) (v := (28 : Int32)) (pc' := 26) (by decide +kernel) ?_
    refine iw_aload_n (i := 0) (pc' := 27) 0 rfl (by decide +kernel) ?_
    refine iw_geti (pc' := 30) ic_fk9 cO_90 lkf_X9_123 (by decide +kernel) ?_
    refine iw_imul (pc' := 31) (by decide +kernel) ?_
    refine iw_aload_n (i := 0) (pc' := 32) 0 rfl (by decide +kernel) ?_
    refine iw_getr (pc' := 35) (q := 98) ic_fk9 cO_90 rfl lkf_X9_35 (by decide +kernel) ?_
    refine iw_iconst (i := 0) (v := (0 : Int32)) (pc' := 36) (by decide +kernel) ?_
    refine iw_bipush (i := 28) (v := (28 : Int32)) (pc' := 38) (by decide +kernel) ?_
    obtain ⟨m22, hc, hf⟩ := ic_bd hf
    refine iw_callS (pc' := 41) (S0 := []) (S1 := []) (c1 := 0) (s1 := 0) (k := 5) (ct_X9_copies l κ sw m21 100 ((28 : Int32) * (m21 90 12)) 98 (0 : Int32) (28 : Int32) hc) ms_X9_copies lkm_X9_116 ⟨rfl, rfl⟩ (ic_sum8 trivial (Nat.le_of_ble_eq_true rfl)) (by unfold ic_rm; decide +kernel) ⟨rfl, rfl, rfl⟩ ⟨Nat.le_of_ble_eq_true rfl, Nat.le_of_ble_eq_true rfl⟩ ?_
    refine iw_aload_n (i := 0) (pc' := 42) 0 rfl (by decide +kernel) ?_
    refine iw_geti (pc' := 45) ic_fk9 cO_90 lkf_X9_123 (by decide +kernel) ?_
    exact iw_ireturn (ic_q1 (Option.some.inj hf)) rfl (ic_q2 (Option.some.inj hf)) (by decide +kernel)
  · refine iw_ldc (pc' := 9) lkc_X9_202 (by decide +kernel) ?_
    exact iw_ireturn (ic_q1 (Option.some.inj hf)) rfl (ic_q2 (Option.some.inj hf)) (by decide +kernel)
set_option maxRecDepth 100000 in
set_option maxHeartbeats 4000000 in
theorem ct_X9_tries (l : Launch) (κ : ic_K) (sw : Nat) (μ : ic_M) {R : ic_M} (hf : fX9_tries μ = some R) : ic_C l κ MX9_tries [ic_rv κ.1 90] 106 (ic_rs sw) μ none 106 (ic_rs sw) R := by
  refine ic_C.of (L := [(0, ic_rv κ.1 90)]) ⟨ic_cat _ _, trivial⟩ ⟨by decide +kernel, Nat.le_of_ble_eq_true rfl⟩ rfl ?_
  unfold fX9_tries at hf
  refine iw_aload_n (i := 0) (pc' := 1) 0 rfl (by decide +kernel) ?_
  refine iw_getr (pc' := 4) (q := 98) ic_fk9 cO_90 rfl lkf_X9_35 (by decide +kernel) ?_
  refine iw_iconst (i := 0) (v := (0 : Int32)) (pc' := 5) (by decide +kernel) ?_
  refine iw_aload_n (i := 0) (pc' := 6) 0 rfl (by decide +kernel) ?_
  refine iw_getr (pc' := 9) (q := 99) ic_fk9 cO_90 rfl lkf_X9_38 (by decide +kernel) ?_
  refine iw_iconst (i := 0) (v := (0 : Int32)) (pc' := 10) (by decide +kernel) ?_
  refine iw_bipush (i := 28) (v := (28 : Int32)) (pc' := 12) (by decide +kernel) ?_
  obtain ⟨m21, hc, hf⟩ := ic_bd hf
  refine iw_callS (pc' := 15) (S0 := []) (S1 := []) (c1 := 0) (s1 := 0) (k := 5) (ct_X9_copies l κ sw μ 98 (0 : Int32) 99 (0 : Int32) (28 : Int32) hc) ms_X9_copies lkm_X9_116 ⟨rfl, rfl⟩ (ic_sum8 trivial (Nat.le_of_ble_eq_true rfl)) (by unfold ic_rm; decide +kernel) ⟨rfl, rfl, rfl⟩ ⟨Nat.le_of_ble_eq_true rfl, Nat.le_of_ble_eq_true rfl⟩ ?_
  exact iw_vreturn rfl (Option.some.inj hf) (by decide +kernel)
set_option maxRecDepth 100000 in
set_option maxHeartbeats 4000000 in
theorem lpX9_triesAlone_6_ok (l : Launch) (κ : ic_K) (sw : Nat)  {Z : State → List Frame → Array Value → State → Prop} {R : ic_M} (hk : ic_W l κ MX9_triesAlone ic_X0 Z 28 [] [] 106 (ic_rs sw) R 0 0) : ∀ (fu : Nat) (y1_ : Int32) (μ : ic_M), lpX9_triesAlone_6  fu y1_ μ = some R → ic_W l κ MX9_triesAlone ic_X0 Z 6 [(0, ic_rv κ.1 90), (1, .int y1_)] [] 106 (ic_rs sw) μ 0 0 := by
  intro fu
  induction fu with
  | zero =>
    intro y1_ μ hf
    exact absurd hf (by simp [lpX9_triesAlone_6])
  | succ fu ih =>
    intro y1_ μ hf
    rw [lpX9_triesAlone_6] at hf
    refine iw_iload_n (i := 1) (pc' := 7) 1 rfl (by decide +kernel) ?_
    refine iw_bipush (i := 6) (v := (6 : Int32)) (pc' := 9) (by decide +kernel) ?_
    refine iw_icmp_ge (off := 19) (tg := 28) (pc' := 12) hf (by decide +kernel) (fun hf => ?_) (fun hf => ?_)
    · obtain rfl := Option.some.inj hf
      exact iw_sub [] rfl hk
    · refine iw_aload_n (i := 0) (pc' := 13) 0 rfl (by decide +kernel) ?_
      refine iw_getr (pc' := 16) (q := 99) ic_fk9 cO_90 rfl lkf_X9_38 (by decide +kernel) ?_
      refine iw_bipush (i := 18) (v := (18 : Int32)) (pc' := 18) (by decide +kernel) ?_
      refine iw_iload_n (i := 1) (pc' := 19) 1 rfl (by decide +kernel) ?_
      refine iw_iadd (pc' := 20) (by decide +kernel) ?_
      refine iw_iconst (i := (-1)) (v := (-1 : Int32)) (pc' := 21) (by decide +kernel) ?_
      refine iw_iast (pc' := 22) hf (fun _ => cI_99) (by decide +kernel) (fun m22 hf => ?_)
      refine iw_iinc (i := 1) (d := 1) (pc' := 25) (v := (1 : Int32)) (L1 := fun x23 => [(0, ic_rv κ.1 90), (1, .int x23)]) hf 1 rfl (fun _ => rfl) (by decide +kernel) (fun x23 hf => ?_)
      refine iw_goto (off := (-19)) (pc' := 6) (by decide +kernel) ?_
      exact iw_sub [0, 1] rfl (ih _ _ hf)
set_option maxRecDepth 100000 in
set_option maxHeartbeats 4000000 in
theorem ct_X9_triesAlone (l : Launch) (κ : ic_K) (sw : Nat) (μ : ic_M) {R : ic_M} (hf : fX9_triesAlone μ = some R) : ic_C l κ MX9_triesAlone [ic_rv κ.1 90] 106 (ic_rs sw) μ none 106 (ic_rs sw) R := by
  refine ic_C.of (L := [(0, ic_rv κ.1 90)]) ⟨ic_cat _ _, trivial⟩ ⟨by decide +kernel, Nat.le_of_ble_eq_true rfl⟩ rfl ?_
  unfold fX9_triesAlone at hf
  refine iw_aload_n (i := 0) (pc' := 1) 0 rfl (by decide +kernel) ?_
  obtain ⟨m21, hc, hf⟩ := ic_bd hf
  refine iw_callV (pc' := 4) (S0 := []) (S1 := []) (c1 := 0) (s1 := 0) (k := 0) (ct_X9_tries l κ sw μ hc) cO_90 ⟨rfl, rfl⟩ mv_X9_tries lkm_X9_233 ⟨rfl, rfl⟩ (ic_sum8 trivial (Nat.le_of_ble_eq_true rfl)) (by unfold ic_rm; decide +kernel) ⟨rfl, rfl, rfl⟩ ⟨Nat.le_of_ble_eq_true rfl, Nat.le_of_ble_eq_true rfl⟩ ?_
  refine iw_iconst (i := 0) (v := (0 : Int32)) (pc' := 5) (by decide +kernel) ?_
  refine iw_istore_n0 (i := 1) (pc' := 6) (L' := [(0, ic_rv κ.1 90), (1, .int (0 : Int32))]) rfl (by decide +kernel) ?_
  obtain ⟨q24, hf, hgq24⟩ := ic_bd hf
  have hjq24 : ic_W l κ MX9_triesAlone ic_X0 (ic_Z κ MX9_triesAlone none 106 (ic_rs sw) R) 28 [] [] 106 (ic_rs sw) q24 0 0 := by
    have hf := hgq24
    exact iw_vreturn rfl (Option.some.inj hf) (by decide +kernel)
  exact iw_sub [0, 1] rfl (lpX9_triesAlone_6_ok l κ sw  hjq24 1000 (0 : Int32) m21 hf)
set_option maxRecDepth 100000 in
set_option maxHeartbeats 4000000 in
theorem lpX9_then_30_ok (l : Launch) (κ : ic_K) (sw : Nat) (x1_ : Int32) (x2_ : Int32) {Z : State → List Frame → Array Value → State → Prop} {R : ic_M} (hk : ic_W l κ MX9_then ic_X0 Z 49 [(0, ic_rv κ.1 90), (1, .int x1_)] [] 106 (ic_rs sw) R 0 0) : ∀ (fu : Nat) (y3_ : Int32) (μ : ic_M), lpX9_then_30 x1_ x2_ fu y3_ μ = some R → ic_W l κ MX9_then ic_X0 Z 30 [(0, ic_rv κ.1 90), (1, .int x1_), (2, .int x2_), (3, .int y3_)] [] 106 (ic_rs sw) μ 0 0 := by
  intro fu
  induction fu with
  | zero =>
    intro y3_ μ hf
    exact absurd hf (by simp [lpX9_then_30])
  | succ fu ih =>
    intro y3_ μ hf
    rw [lpX9_then_30] at hf
    refine iw_iload_n (i := 3) (pc' := 31) 3 rfl (by decide +kernel) ?_
    refine iw_iload_n (i := 2) (pc' := 32) 2 rfl (by decide +kernel) ?_
    refine iw_icmp_ge (off := 17) (tg := 49) (pc' := 35) hf (by decide +kernel) (fun hf => ?_) (fun hf => ?_)
    · obtain rfl := Option.some.inj hf
      exact iw_sub [0, 1] rfl hk
    · refine iw_aload_n (i := 0) (pc' := 36) 0 rfl (by decide +kernel) ?_
      refine iw_aload_n (i := 0) (pc' := 37) 0 rfl (by decide +kernel) ?_
      refine iw_getr (pc' := 40) (q := 99) ic_fk9 cO_90 rfl lkf_X9_38 (by decide +kernel) ?_
      obtain ⟨m24, hc, hf⟩ := ic_bd hf
      refine iw_callV (pc' := 43) (S0 := []) (S1 := []) (c1 := 0) (s1 := 0) (k := 1) (ct_X9_passes l κ sw μ 99 hc) cO_90 ⟨rfl, rfl⟩ mv_X9_passes lkm_X9_209 ⟨rfl, rfl⟩ (ic_sum8 trivial (Nat.le_of_ble_eq_true rfl)) (by unfold ic_rm; decide +kernel) ⟨rfl, rfl, rfl⟩ ⟨Nat.le_of_ble_eq_true rfl, Nat.le_of_ble_eq_true rfl⟩ ?_
      refine iw_iinc (i := 3) (d := 1) (pc' := 46) (v := (1 : Int32)) (L1 := fun x25 => [(0, ic_rv κ.1 90), (1, .int x1_), (2, .int x2_), (3, .int x25)]) hf 3 rfl (fun _ => rfl) (by decide +kernel) (fun x25 hf => ?_)
      refine iw_goto (off := (-16)) (pc' := 30) (by decide +kernel) ?_
      exact iw_sub [0, 1, 2, 3] rfl (ih _ _ hf)
set_option maxRecDepth 100000 in
set_option maxHeartbeats 4000000 in
theorem ct_X9_then (l : Launch) (κ : ic_K) (sw : Nat) (μ : ic_M) (x1 : Int32) (x2 : Int32) {R : Int32 × ic_M} (hf : fX9_then μ x1 x2 = some R) : ic_C l κ MX9_then [ic_rv κ.1 90, .int x1, .int x2] 106 (ic_rs sw) μ (some (.int R.1)) 106 (ic_rs sw) R.2 := by
  refine ic_C.of (L := [(0, ic_rv κ.1 90), (1, .int x1), (2, .int x2)]) ⟨ic_cat _ _, rfl, rfl, trivial⟩ ⟨by decide +kernel, Nat.le_of_ble_eq_true rfl⟩ rfl ?_
  unfold fX9_then at hf
  refine iw_aload_n (i := 0) (pc' := 1) 0 rfl (by decide +kernel) ?_
  refine iw_iload_n (i := 1) (pc' := 2) 1 rfl (by decide +kernel) ?_
  obtain ⟨v21, hc, hf⟩ := ic_bd hf
  refine iw_callV (pc' := 5) (S0 := []) (S1 := [.int v21]) (c1 := 0) (s1 := 0) (k := 1) (ct_X9_isCell l κ sw μ x1 hc) cO_90 ⟨rfl, rfl⟩ mv_X9_isCell lkm_X9_190 ⟨rfl, rfl⟩ (ic_sum8 trivial (Nat.le_of_ble_eq_true rfl)) (by unfold ic_rm; decide +kernel) ⟨rfl, rfl, rfl⟩ ⟨Nat.le_of_ble_eq_true rfl, Nat.le_of_ble_eq_true rfl⟩ ?_
  refine iw_if_ne (off := 6) (tg := 11) (pc' := 8) hf (by decide +kernel) (fun hf => ?_) (fun hf => ?_)
  · refine iw_iload_n (i := 2) (pc' := 12) 2 rfl (by decide +kernel) ?_
    refine iw_iconst (i := 0) (v := (0 : Int32)) (pc' := 13) (by decide +kernel) ?_
    refine iw_bipush (i := 60) (v := (60 : Int32)) (pc' := 15) (by decide +kernel) ?_
    obtain ⟨v22, hc, hf⟩ := ic_bd hf
    refine iw_callS (pc' := 18) (S0 := []) (S1 := [.int v22]) (c1 := 0) (s1 := 0) (k := 3) (ct_X9_in l κ sw μ x2 (0 : Int32) (60 : Int32) hc) ms_X9_in lkm_X9_63 ⟨rfl, rfl⟩ (ic_sum8 trivial (Nat.le_of_ble_eq_true rfl)) (by unfold ic_rm; decide +kernel) ⟨rfl, rfl, rfl⟩ ⟨Nat.le_of_ble_eq_true rfl, Nat.le_of_ble_eq_true rfl⟩ ?_
    refine iw_if_ne (off := 6) (tg := 24) (pc' := 21) hf (by decide +kernel) (fun hf => ?_) (fun hf => ?_)
    · refine iw_aload_n (i := 0) (pc' := 25) 0 rfl (by decide +kernel) ?_
      obtain ⟨m23, hc, hf⟩ := ic_bd hf
      refine iw_callV (pc' := 28) (S0 := []) (S1 := []) (c1 := 0) (s1 := 0) (k := 0) (ct_X9_triesAlone l κ sw μ hc) cO_90 ⟨rfl, rfl⟩ mv_X9_triesAlone lkm_X9_236 ⟨rfl, rfl⟩ (ic_sum8 trivial (Nat.le_of_ble_eq_true rfl)) (by unfold ic_rm; decide +kernel) ⟨rfl, rfl, rfl⟩ ⟨Nat.le_of_ble_eq_true rfl, Nat.le_of_ble_eq_true rfl⟩ ?_
      refine iw_iconst (i := 0) (v := (0 : Int32)) (pc' := 29) (by decide +kernel) ?_
      refine iw_istore_n0 (i := 3) (pc' := 30) (L' := [(0, ic_rv κ.1 90), (1, .int x1), (2, .int x2), (3, .int (0 : Int32))]) rfl (by decide +kernel) ?_
      obtain ⟨q26, hf, hgq26⟩ := ic_bd hf
      have hjq26 : ic_W l κ MX9_then ic_X0 (ic_Z κ MX9_then (some (.int R.1)) 106 (ic_rs sw) R.2) 49 [(0, ic_rv κ.1 90), (1, .int x1)] [] 106 (ic_rs sw) q26 0 0 := by
        have hf := hgq26
        refine iw_aload_n (i := 0) (pc' := 50) 0 rfl (by decide +kernel) ?_
        refine iw_getr (pc' := 53) (q := 99) ic_fk9 cO_90 rfl lkf_X9_38 (by decide +kernel) ?_
        refine iw_iload_n (i := 1) (pc' := 54) 1 rfl (by decide +kernel) ?_
        refine iw_iald (pc' := 55) hf (fun _ => cI_99) (by decide +kernel) (fun v27 hf => ?_)
        exact iw_ireturn (ic_q1 (Option.some.inj hf)) rfl (ic_q2 (Option.some.inj hf)) (by decide +kernel)
      exact iw_sub [0, 1, 2, 3] rfl (lpX9_then_30_ok l κ sw x1 x2 hjq26 1000 (0 : Int32) m23 hf)
    · refine iw_ldc (pc' := 23) lkc_X9_67 (by decide +kernel) ?_
      exact iw_ireturn (ic_q1 (Option.some.inj hf)) rfl (ic_q2 (Option.some.inj hf)) (by decide +kernel)
  · refine iw_ldc (pc' := 10) lkc_X9_194 (by decide +kernel) ?_
    exact iw_ireturn (ic_q1 (Option.some.inj hf)) rfl (ic_q2 (Option.some.inj hf)) (by decide +kernel)
set_option maxRecDepth 100000 in
set_option maxHeartbeats 4000000 in
theorem lpX9_bearing_7_ok (l : Launch) (κ : ic_K) (sw : Nat) (x1_ : Int32) (x2_ : Int32) (x3_ : Int32) {Rf : Int32 × ic_M} {R : (ic_M) ⊕ (Int32 × ic_M)} (hk : ∀ t, R = .inl t → ic_W l κ MX9_bearing ic_X0 (ic_Z κ MX9_bearing (some (.int Rf.1)) 106 (ic_rs sw) Rf.2) 53 [] [] 106 (ic_rs sw) t 0 0) (hr : ∀ v, R = .inr v → v = Rf) : ∀ (fu : Nat) (y4_ : Int32) (μ : ic_M), lpX9_bearing_7 x1_ x2_ x3_ fu y4_ μ = some R → ic_W l κ MX9_bearing ic_X0 (ic_Z κ MX9_bearing (some (.int Rf.1)) 106 (ic_rs sw) Rf.2) 7 [(0, ic_rv κ.1 90), (1, .int x1_), (2, .int x2_), (3, .int x3_), (4, .int y4_)] [] 106 (ic_rs sw) μ 0 0 := by
  intro fu
  induction fu with
  | zero =>
    intro y4_ μ hf
    exact absurd hf (by simp [lpX9_bearing_7])
  | succ fu ih =>
    intro y4_ μ hf
    rw [lpX9_bearing_7] at hf
    refine iw_iload (i := 4) (pc' := 9) 4 rfl (by decide +kernel) ?_
    refine iw_bipush (i := 61) (v := (61 : Int32)) (pc' := 11) (by decide +kernel) ?_
    refine iw_icmp_ge (off := 42) (tg := 53) (pc' := 14) hf (by decide +kernel) (fun hf => ?_) (fun hf => ?_)
    · exact iw_sub [] rfl (hk _ (Option.some.inj hf).symm)
    · refine iw_aload_n (i := 0) (pc' := 15) 0 rfl (by decide +kernel) ?_
      refine iw_aload_n (i := 0) (pc' := 16) 0 rfl (by decide +kernel) ?_
      refine iw_getr (pc' := 19) (q := 99) ic_fk9 cO_90 rfl lkf_X9_38 (by decide +kernel) ?_
      refine iw_iload_n (i := 1) (pc' := 20) 1 rfl (by decide +kernel) ?_
      obtain ⟨v22, hc, hf⟩ := ic_bd hf
      refine iw_callV (pc' := 23) (S0 := []) (S1 := [.int v22]) (c1 := 0) (s1 := 0) (k := 2) (ct_X9_bearsOf l κ sw μ 99 x1_ hc) cO_90 ⟨rfl, rfl⟩ mv_X9_bearsOf lkm_X9_140 ⟨rfl, rfl⟩ (ic_sum8 trivial (Nat.le_of_ble_eq_true rfl)) (by unfold ic_rm; decide +kernel) ⟨rfl, rfl, rfl⟩ ⟨Nat.le_of_ble_eq_true rfl, Nat.le_of_ble_eq_true rfl⟩ ?_
      refine iw_iload_n (i := 2) (pc' := 24) 2 rfl (by decide +kernel) ?_
      obtain ⟨q23, hf, hgq23⟩ := ic_bd hf
      have hjq23 : ic_W l κ MX9_bearing ic_X0 (ic_Z κ MX9_bearing (some (.int Rf.1)) 106 (ic_rs sw) Rf.2) 32 [(0, ic_rv κ.1 90), (1, .int x1_), (2, .int x2_), (3, .int x3_), (4, .int y4_)] [.int q23] 106 (ic_rs sw) μ 0 0 := by
        have hf := hgq23
        refine iw_iload_n (i := 3) (pc' := 33) 3 rfl (by decide +kernel) ?_
        refine iw_icmp_ne (off := 6) (tg := 39) (pc' := 36) hf (by decide +kernel) (fun hf => ?_) (fun hf => ?_)
        · refine iw_aload_n (i := 0) (pc' := 40) 0 rfl (by decide +kernel) ?_
          refine iw_aload_n (i := 0) (pc' := 41) 0 rfl (by decide +kernel) ?_
          refine iw_getr (pc' := 44) (q := 99) ic_fk9 cO_90 rfl lkf_X9_38 (by decide +kernel) ?_
          obtain ⟨m24, hc, hf⟩ := ic_bd hf
          refine iw_callV (pc' := 47) (S0 := []) (S1 := []) (c1 := 0) (s1 := 0) (k := 1) (ct_X9_passes l κ sw μ 99 hc) cO_90 ⟨rfl, rfl⟩ mv_X9_passes lkm_X9_209 ⟨rfl, rfl⟩ (ic_sum8 trivial (Nat.le_of_ble_eq_true rfl)) (by unfold ic_rm; decide +kernel) ⟨rfl, rfl, rfl⟩ ⟨Nat.le_of_ble_eq_true rfl, Nat.le_of_ble_eq_true rfl⟩ ?_
          refine iw_iinc (i := 4) (d := 1) (pc' := 50) (v := (1 : Int32)) (L1 := fun x25 => [(0, ic_rv κ.1 90), (1, .int x1_), (2, .int x2_), (3, .int x3_), (4, .int x25)]) hf 4 rfl (fun _ => rfl) (by decide +kernel) (fun x25 hf => ?_)
          refine iw_goto (off := (-43)) (pc' := 7) (by decide +kernel) ?_
          exact iw_sub [0, 1, 2, 3, 4] rfl (ih _ _ hf)
        · refine iw_iload (i := 4) (pc' := 38) 4 rfl (by decide +kernel) ?_
          exact iw_ireturn (ic_q1 (hr _ (Option.some.inj hf).symm)) rfl (ic_q2 (hr _ (Option.some.inj hf).symm)) (by decide +kernel)
      refine iw_icmp_lt (off := 7) (tg := 31) (pc' := 27) hf (by decide +kernel) (fun hf => ?_) (fun hf => ?_)
      · refine iw_iconst (i := 0) (v := (0 : Int32)) (pc' := 32) (by decide +kernel) ?_
        obtain rfl := Option.some.inj hf
        exact iw_sub [0, 1, 2, 3, 4] rfl hjq23
      · refine iw_iconst (i := 1) (v := (1 : Int32)) (pc' := 28) (by decide +kernel) ?_
        refine iw_goto (off := 4) (pc' := 32) (by decide +kernel) ?_
        obtain rfl := Option.some.inj hf
        exact iw_sub [0, 1, 2, 3, 4] rfl hjq23
set_option maxRecDepth 100000 in
set_option maxHeartbeats 4000000 in
theorem ct_X9_bearing (l : Launch) (κ : ic_K) (sw : Nat) (μ : ic_M) (x1 : Int32) (x2 : Int32) (x3 : Int32) {R : Int32 × ic_M} (hf : fX9_bearing μ x1 x2 x3 = some R) : ic_C l κ MX9_bearing [ic_rv κ.1 90, .int x1, .int x2, .int x3] 106 (ic_rs sw) μ (some (.int R.1)) 106 (ic_rs sw) R.2 := by
  refine ic_C.of (L := [(0, ic_rv κ.1 90), (1, .int x1), (2, .int x2), (3, .int x3)]) ⟨ic_cat _ _, rfl, rfl, rfl, trivial⟩ ⟨by decide +kernel, Nat.le_of_ble_eq_true rfl⟩ rfl ?_
  unfold fX9_bearing at hf
  refine iw_aload_n (i := 0) (pc' := 1) 0 rfl (by decide +kernel) ?_
  obtain ⟨m21, hc, hf⟩ := ic_bd hf
  refine iw_callV (pc' := 4) (S0 := []) (S1 := []) (c1 := 0) (s1 := 0) (k := 0) (ct_X9_triesAlone l κ sw μ hc) cO_90 ⟨rfl, rfl⟩ mv_X9_triesAlone lkm_X9_236 ⟨rfl, rfl⟩ (ic_sum8 trivial (Nat.le_of_ble_eq_true rfl)) (by unfold ic_rm; decide +kernel) ⟨rfl, rfl, rfl⟩ ⟨Nat.le_of_ble_eq_true rfl, Nat.le_of_ble_eq_true rfl⟩ ?_
  refine iw_iconst (i := 0) (v := (0 : Int32)) (pc' := 5) (by decide +kernel) ?_
  refine iw_istore0 (i := 4) (pc' := 7) (L' := [(0, ic_rv κ.1 90), (1, .int x1), (2, .int x2), (3, .int x3), (4, .int (0 : Int32))]) rfl (by decide +kernel) ?_
  obtain ⟨q26, hf, hgq26⟩ := ic_bd hf
  refine iw_sub [0, 1, 2, 3, 4] rfl (lpX9_bearing_7_ok l κ sw x1 x2 x3 (R := q26) (fun t27 e => ?_) (fun v e => ?_) 1000 (0 : Int32) m21 hf)
  · subst e
    simp only [Sum.elim_inl] at hgq26
    have hf := hgq26
    refine iw_iconst (i := (-1)) (v := (-1 : Int32)) (pc' := 54) (by decide +kernel) ?_
    exact iw_ireturn (ic_q1 (Option.some.inj hf)) rfl (ic_q2 (Option.some.inj hf)) (by decide +kernel)
  · subst e
    simp only [Sum.elim_inr] at hgq26
    exact Option.some.inj hgq26
set_option maxRecDepth 100000 in
set_option maxHeartbeats 4000000 in
theorem ct_X9_when (l : Launch) (κ : ic_K) (sw : Nat) (μ : ic_M) (x1 : Int32) (x2 : Int32) {R : Int32 × ic_M} (hf : fX9_when μ x1 x2 = some R) : ic_C l κ MX9_when [ic_rv κ.1 90, .int x1, .int x2] 106 (ic_rs sw) μ (some (.int R.1)) 106 (ic_rs sw) R.2 := by
  refine ic_C.of (L := [(0, ic_rv κ.1 90), (1, .int x1), (2, .int x2)]) ⟨ic_cat _ _, rfl, rfl, trivial⟩ ⟨by decide +kernel, Nat.le_of_ble_eq_true rfl⟩ rfl ?_
  unfold fX9_when at hf
  refine iw_aload_n (i := 0) (pc' := 1) 0 rfl (by decide +kernel) ?_
  refine iw_iload_n (i := 1) (pc' := 2) 1 rfl (by decide +kernel) ?_
  obtain ⟨v21, hc, hf⟩ := ic_bd hf
  refine iw_callV (pc' := 5) (S0 := []) (S1 := [.int v21]) (c1 := 0) (s1 := 0) (k := 1) (ct_X9_isCell l κ sw μ x1 hc) cO_90 ⟨rfl, rfl⟩ mv_X9_isCell lkm_X9_190 ⟨rfl, rfl⟩ (ic_sum8 trivial (Nat.le_of_ble_eq_true rfl)) (by unfold ic_rm; decide +kernel) ⟨rfl, rfl, rfl⟩ ⟨Nat.le_of_ble_eq_true rfl, Nat.le_of_ble_eq_true rfl⟩ ?_
  obtain ⟨q22, hf, hgq22⟩ := ic_bd hf
  have hjq22 : ic_W l κ MX9_when ic_X0 (ic_Z κ MX9_when (some (.int R.1)) 106 (ic_rs sw) R.2) 36 [] [.int q22.1] 106 (ic_rs sw) q22.2 0 0 := by
    have hf := hgq22
    exact iw_ireturn (ic_q1 (Option.some.inj hf)) rfl (ic_q2 (Option.some.inj hf)) (by decide +kernel)
  refine iw_if_ne (off := 8) (tg := 13) (pc' := 8) hf (by decide +kernel) (fun hf => ?_) (fun hf => ?_)
  · refine iw_iload_n (i := 2) (pc' := 14) 2 rfl (by decide +kernel) ?_
    refine iw_iconst (i := 1) (v := (1 : Int32)) (pc' := 15) (by decide +kernel) ?_
    refine iw_sipush (i := 999) (v := (999 : Int32)) (pc' := 18) (by decide +kernel) ?_
    obtain ⟨v23, hc, hf⟩ := ic_bd hf
    refine iw_callS (pc' := 21) (S0 := []) (S1 := [.int v23]) (c1 := 0) (s1 := 0) (k := 3) (ct_X9_in l κ sw μ x2 (1 : Int32) (999 : Int32) hc) ms_X9_in lkm_X9_63 ⟨rfl, rfl⟩ (ic_sum8 trivial (Nat.le_of_ble_eq_true rfl)) (by unfold ic_rm; decide +kernel) ⟨rfl, rfl, rfl⟩ ⟨Nat.le_of_ble_eq_true rfl, Nat.le_of_ble_eq_true rfl⟩ ?_
    refine iw_if_eq (off := 13) (tg := 34) (pc' := 24) hf (by decide +kernel) (fun hf => ?_) (fun hf => ?_)
    · refine iw_ldc (pc' := 36) lkc_X9_67 (by decide +kernel) ?_
      obtain rfl := Option.some.inj hf
      exact iw_sub [] rfl hjq22
    · refine iw_aload_n (i := 0) (pc' := 25) 0 rfl (by decide +kernel) ?_
      refine iw_iload_n (i := 1) (pc' := 26) 1 rfl (by decide +kernel) ?_
      refine iw_iload_n (i := 2) (pc' := 27) 2 rfl (by decide +kernel) ?_
      refine iw_iconst (i := 1) (v := (1 : Int32)) (pc' := 28) (by decide +kernel) ?_
      obtain ⟨q24, hc, hf⟩ := ic_bd hf
      refine iw_callV (pc' := 31) (S0 := []) (S1 := [.int q24.1]) (c1 := 0) (s1 := 0) (k := 3) (ct_X9_bearing l κ sw μ x1 x2 (1 : Int32) hc) cO_90 ⟨rfl, rfl⟩ mv_X9_bearing lkm_X9_239 ⟨rfl, rfl⟩ (ic_sum8 trivial (Nat.le_of_ble_eq_true rfl)) (by unfold ic_rm; decide +kernel) ⟨rfl, rfl, rfl⟩ ⟨Nat.le_of_ble_eq_true rfl, Nat.le_of_ble_eq_true rfl⟩ ?_
      refine iw_goto (off := 5) (pc' := 36) (by decide +kernel) ?_
      obtain rfl := Option.some.inj hf
      exact iw_sub [] rfl hjq22
  · refine iw_ldc (pc' := 10) lkc_X9_194 (by decide +kernel) ?_
    refine iw_goto (off := 26) (pc' := 36) (by decide +kernel) ?_
    obtain rfl := Option.some.inj hf
    exact iw_sub [] rfl hjq22
set_option maxRecDepth 100000 in
set_option maxHeartbeats 4000000 in
theorem ct_X9_noMore (l : Launch) (κ : ic_K) (sw : Nat) (μ : ic_M) (x1 : Int32) (x2 : Int32) {R : Int32 × ic_M} (hf : fX9_noMore μ x1 x2 = some R) : ic_C l κ MX9_noMore [ic_rv κ.1 90, .int x1, .int x2] 106 (ic_rs sw) μ (some (.int R.1)) 106 (ic_rs sw) R.2 := by
  refine ic_C.of (L := [(0, ic_rv κ.1 90), (1, .int x1), (2, .int x2)]) ⟨ic_cat _ _, rfl, rfl, trivial⟩ ⟨by decide +kernel, Nat.le_of_ble_eq_true rfl⟩ rfl ?_
  unfold fX9_noMore at hf
  refine iw_aload_n (i := 0) (pc' := 1) 0 rfl (by decide +kernel) ?_
  refine iw_iload_n (i := 1) (pc' := 2) 1 rfl (by decide +kernel) ?_
  obtain ⟨v21, hc, hf⟩ := ic_bd hf
  refine iw_callV (pc' := 5) (S0 := []) (S1 := [.int v21]) (c1 := 0) (s1 := 0) (k := 1) (ct_X9_isCell l κ sw μ x1 hc) cO_90 ⟨rfl, rfl⟩ mv_X9_isCell lkm_X9_190 ⟨rfl, rfl⟩ (ic_sum8 trivial (Nat.le_of_ble_eq_true rfl)) (by unfold ic_rm; decide +kernel) ⟨rfl, rfl, rfl⟩ ⟨Nat.le_of_ble_eq_true rfl, Nat.le_of_ble_eq_true rfl⟩ ?_
  obtain ⟨q22, hf, hgq22⟩ := ic_bd hf
  have hjq22 : ic_W l κ MX9_noMore ic_X0 (ic_Z κ MX9_noMore (some (.int R.1)) 106 (ic_rs sw) R.2) 36 [] [.int q22.1] 106 (ic_rs sw) q22.2 0 0 := by
    have hf := hgq22
    exact iw_ireturn (ic_q1 (Option.some.inj hf)) rfl (ic_q2 (Option.some.inj hf)) (by decide +kernel)
  refine iw_if_ne (off := 8) (tg := 13) (pc' := 8) hf (by decide +kernel) (fun hf => ?_) (fun hf => ?_)
  · refine iw_iload_n (i := 2) (pc' := 14) 2 rfl (by decide +kernel) ?_
    refine iw_iconst (i := 1) (v := (1 : Int32)) (pc' := 15) (by decide +kernel) ?_
    refine iw_sipush (i := 999) (v := (999 : Int32)) (pc' := 18) (by decide +kernel) ?_
    obtain ⟨v23, hc, hf⟩ := ic_bd hf
    refine iw_callS (pc' := 21) (S0 := []) (S1 := [.int v23]) (c1 := 0) (s1 := 0) (k := 3) (ct_X9_in l κ sw μ x2 (1 : Int32) (999 : Int32) hc) ms_X9_in lkm_X9_63 ⟨rfl, rfl⟩ (ic_sum8 trivial (Nat.le_of_ble_eq_true rfl)) (by unfold ic_rm; decide +kernel) ⟨rfl, rfl, rfl⟩ ⟨Nat.le_of_ble_eq_true rfl, Nat.le_of_ble_eq_true rfl⟩ ?_
    refine iw_if_eq (off := 13) (tg := 34) (pc' := 24) hf (by decide +kernel) (fun hf => ?_) (fun hf => ?_)
    · refine iw_ldc (pc' := 36) lkc_X9_67 (by decide +kernel) ?_
      obtain rfl := Option.some.inj hf
      exact iw_sub [] rfl hjq22
    · refine iw_aload_n (i := 0) (pc' := 25) 0 rfl (by decide +kernel) ?_
      refine iw_iload_n (i := 1) (pc' := 26) 1 rfl (by decide +kernel) ?_
      refine iw_iload_n (i := 2) (pc' := 27) 2 rfl (by decide +kernel) ?_
      refine iw_iconst (i := 0) (v := (0 : Int32)) (pc' := 28) (by decide +kernel) ?_
      obtain ⟨q24, hc, hf⟩ := ic_bd hf
      refine iw_callV (pc' := 31) (S0 := []) (S1 := [.int q24.1]) (c1 := 0) (s1 := 0) (k := 3) (ct_X9_bearing l κ sw μ x1 x2 (0 : Int32) hc) cO_90 ⟨rfl, rfl⟩ mv_X9_bearing lkm_X9_239 ⟨rfl, rfl⟩ (ic_sum8 trivial (Nat.le_of_ble_eq_true rfl)) (by unfold ic_rm; decide +kernel) ⟨rfl, rfl, rfl⟩ ⟨Nat.le_of_ble_eq_true rfl, Nat.le_of_ble_eq_true rfl⟩ ?_
      refine iw_goto (off := 5) (pc' := 36) (by decide +kernel) ?_
      obtain rfl := Option.some.inj hf
      exact iw_sub [] rfl hjq22
  · refine iw_ldc (pc' := 10) lkc_X9_194 (by decide +kernel) ?_
    refine iw_goto (off := 26) (pc' := 36) (by decide +kernel) ?_
    obtain rfl := Option.some.inj hf
    exact iw_sub [] rfl hjq22
set_option maxRecDepth 100000 in
set_option maxHeartbeats 4000000 in
theorem ct_X9_isSafe (l : Launch) (κ : ic_K) (sw : Nat) (μ : ic_M) (x1 : Int32) (x2 : Int32) {R : Int32 × ic_M} (hf : fX9_isSafe μ x1 x2 = some R) : ic_C l κ MX9_isSafe [ic_rv κ.1 90, .int x1, .int x2] 106 (ic_rs sw) μ (some (.int R.1)) 106 (ic_rs sw) R.2 := by
  refine ic_C.of (L := [(0, ic_rv κ.1 90), (1, .int x1), (2, .int x2)]) ⟨ic_cat _ _, rfl, rfl, trivial⟩ ⟨by decide +kernel, Nat.le_of_ble_eq_true rfl⟩ rfl ?_
  unfold fX9_isSafe at hf
  refine iw_aload_n (i := 0) (pc' := 1) 0 rfl (by decide +kernel) ?_
  obtain ⟨m21, hc, hf⟩ := ic_bd hf
  refine iw_callV (pc' := 4) (S0 := []) (S1 := []) (c1 := 0) (s1 := 0) (k := 0) (ct_X9_tries l κ sw μ hc) cO_90 ⟨rfl, rfl⟩ mv_X9_tries lkm_X9_233 ⟨rfl, rfl⟩ (ic_sum8 trivial (Nat.le_of_ble_eq_true rfl)) (by unfold ic_rm; decide +kernel) ⟨rfl, rfl, rfl⟩ ⟨Nat.le_of_ble_eq_true rfl, Nat.le_of_ble_eq_true rfl⟩ ?_
  refine iw_aload_n (i := 0) (pc' := 5) 0 rfl (by decide +kernel) ?_
  refine iw_getr (pc' := 8) (q := 99) ic_fk9 cO_90 rfl lkf_X9_38 (by decide +kernel) ?_
  refine iw_bipush (i := 18) (v := (18 : Int32)) (pc' := 10) (by decide +kernel) ?_
  refine iw_iload_n (i := 1) (pc' := 11) 1 rfl (by decide +kernel) ?_
  refine iw_iadd (pc' := 12) (by decide +kernel) ?_
  refine iw_iload_n (i := 2) (pc' := 13) 2 rfl (by decide +kernel) ?_
  refine iw_iast (pc' := 14) hf (fun _ => cI_99) (by decide +kernel) (fun m22 hf => ?_)
  refine iw_aload_n (i := 0) (pc' := 15) 0 rfl (by decide +kernel) ?_
  refine iw_getr (pc' := 18) (q := 98) ic_fk9 cO_90 rfl lkf_X9_35 (by decide +kernel) ?_
  refine iw_iload_n (i := 2) (pc' := 19) 2 rfl (by decide +kernel) ?_
  refine iw_iald (pc' := 20) hf (fun _ => cI_98) (by decide +kernel) (fun v23 hf => ?_)
  obtain ⟨q24, hf, hgq24⟩ := ic_bd hf
  have hjq24 : ic_W l κ MX9_isSafe ic_X0 (ic_Z κ MX9_isSafe (some (.int R.1)) 106 (ic_rs sw) R.2) 39 [] [.int q24] 106 (ic_rs sw) m22 0 0 := by
    have hf := hgq24
    obtain ⟨hb, hf⟩ := ic_rz_of hf
    exact iw_zreturn hb (ic_q1 (Option.some.inj hf)) rfl (ic_q2 (Option.some.inj hf)) (by decide +kernel)
  refine iw_if_le (off := 18) (tg := 38) (pc' := 23) hf (by decide +kernel) (fun hf => ?_) (fun hf => ?_)
  · refine iw_iconst (i := 0) (v := (0 : Int32)) (pc' := 39) (by decide +kernel) ?_
    obtain rfl := Option.some.inj hf
    exact iw_sub [] rfl hjq24
  · refine iw_aload_n (i := 0) (pc' := 24) 0 rfl (by decide +kernel) ?_
    refine iw_aload_n (i := 0) (pc' := 25) 0 rfl (by decide +kernel) ?_
    refine iw_getr (pc' := 28) (q := 99) ic_fk9 cO_90 rfl lkf_X9_38 (by decide +kernel) ?_
    obtain ⟨v25, hc, hf⟩ := ic_bd hf
    refine iw_callV (pc' := 31) (S0 := []) (S1 := [.int v25]) (c1 := 0) (s1 := 0) (k := 1) (ct_X9_breaking l κ sw m22 99 hc) cO_90 ⟨rfl, rfl⟩ mv_X9_breaking lkm_X9_143 ⟨rfl, rfl⟩ (ic_sum8 trivial (Nat.le_of_ble_eq_true rfl)) (by unfold ic_rm; decide +kernel) ⟨rfl, rfl, rfl⟩ ⟨Nat.le_of_ble_eq_true rfl, Nat.le_of_ble_eq_true rfl⟩ ?_
    refine iw_if_ne (off := 7) (tg := 38) (pc' := 34) hf (by decide +kernel) (fun hf => ?_) (fun hf => ?_)
    · refine iw_iconst (i := 0) (v := (0 : Int32)) (pc' := 39) (by decide +kernel) ?_
      obtain rfl := Option.some.inj hf
      exact iw_sub [] rfl hjq24
    · refine iw_iconst (i := 1) (v := (1 : Int32)) (pc' := 35) (by decide +kernel) ?_
      refine iw_goto (off := 4) (pc' := 39) (by decide +kernel) ?_
      obtain rfl := Option.some.inj hf
      exact iw_sub [] rfl hjq24
set_option maxRecDepth 100000 in
set_option maxHeartbeats 4000000 in
theorem lpX9_measures_17_ok (l : Launch) (κ : ic_K) (sw : Nat) (x1_ : Int32) (x2_ : Int32) {Z : State → List Frame → Array Value → State → Prop} {R : ic_M} (hk : ic_W l κ MX9_measures ic_X0 Z 55 [(0, ic_rv κ.1 90), (1, .int x1_)] [] 106 (ic_rs sw) R 0 0) : ∀ (fu : Nat) (y3_ : Int32) (μ : ic_M), lpX9_measures_17 x1_ x2_ fu y3_ μ = some R → ic_W l κ MX9_measures ic_X0 Z 17 [(0, ic_rv κ.1 90), (1, .int x1_), (2, .int x2_), (3, .int y3_)] [] 106 (ic_rs sw) μ 0 0 := by
  intro fu
  induction fu with
  | zero =>
    intro y3_ μ hf
    exact absurd hf (by simp [lpX9_measures_17])
  | succ fu ih =>
    intro y3_ μ hf
    rw [lpX9_measures_17] at hf
    refine iw_iload_n (i := 3) (pc' := 18) 3 rfl (by decide +kernel) ?_
    refine iw_aload_n (i := 0) (pc' := 19) 0 rfl (by decide +kernel) ?_
    obtain ⟨v24, hc, hf⟩ := ic_bd hf
    refine iw_callV (pc' := 22) (S0 := [.int y3_]) (S1 := [.int v24, .int y3_]) (c1 := 0) (s1 := 0) (k := 0) (ct_X9_cells l κ sw μ hc) cO_90 ⟨rfl, rfl⟩ mv_X9_cells lkm_X9_120 ⟨rfl, rfl⟩ (ic_sum8 ⟨rfl, trivial⟩ (Nat.le_of_ble_eq_true rfl)) (by unfold ic_rm; decide +kernel) ⟨rfl, rfl, rfl⟩ ⟨Nat.le_of_ble_eq_true rfl, Nat.le_of_ble_eq_true rfl⟩ ?_
    refine iw_icmp_ge (off := 33) (tg := 55) (pc' := 25) hf (by decide +kernel) (fun hf => ?_) (fun hf => ?_)
    · obtain rfl := Option.some.inj hf
      exact iw_sub [0, 1] rfl hk
    · refine iw_aload_n (i := 0) (pc' := 26) 0 rfl (by decide +kernel) ?_
      refine iw_getr (pc' := 29) (q := 106) ic_fk9 cO_90 rfl lkf_X9_60 (by decide +kernel) ?_
      refine iw_iload_n (i := 3) (pc' := 30) 3 rfl (by decide +kernel) ?_
      refine iw_iload_n (i := 3) (pc' := 31) 3 rfl (by decide +kernel) ?_
      refine iw_aload_n (i := 0) (pc' := 32) 0 rfl (by decide +kernel) ?_
      refine iw_getr (pc' := 35) (q := 92) ic_fk9 cO_90 rfl lkf_X9_17 (by decide +kernel) ?_
      refine iw_iconst (i := 0) (v := (0 : Int32)) (pc' := 36) (by decide +kernel) ?_
      refine iw_iald (pc' := 37) hf (fun _ => cI_92) (by decide +kernel) (fun v25 hf => ?_)
      refine iw_irem (pc' := 38) hf (by decide +kernel) (fun hf => ?_)
      refine iw_iload_n (i := 2) (pc' := 39) 2 rfl (by decide +kernel) ?_
      obtain ⟨q26, hf, hgq26⟩ := ic_bd hf
      have hjq26 : ic_W l κ MX9_measures ic_X0 Z 48 [(0, ic_rv κ.1 90), (1, .int x1_), (2, .int x2_), (3, .int y3_)] [.int q26, .int y3_, ic_rv κ.1 106] 106 (ic_rs sw) μ 0 0 := by
        have hf := hgq26
        refine iw_iast (pc' := 49) hf (fun _ => cI_106) (by decide +kernel) (fun m27 hf => ?_)
        refine iw_iinc (i := 3) (d := 1) (pc' := 52) (v := (1 : Int32)) (L1 := fun x28 => [(0, ic_rv κ.1 90), (1, .int x1_), (2, .int x2_), (3, .int x28)]) hf 3 rfl (fun _ => rfl) (by decide +kernel) (fun x28 hf => ?_)
        refine iw_goto (off := (-35)) (pc' := 17) (by decide +kernel) ?_
        exact iw_sub [0, 1, 2, 3] rfl (ih _ _ hf)
      refine iw_icmp_ne (off := 7) (tg := 46) (pc' := 42) hf (by decide +kernel) (fun hf => ?_) (fun hf => ?_)
      · refine iw_bipush (i := 99) (v := (99 : Int32)) (pc' := 48) (by decide +kernel) ?_
        obtain rfl := Option.some.inj hf
        exact iw_sub [0, 1, 2, 3] rfl hjq26
      · refine iw_iconst (i := 0) (v := (0 : Int32)) (pc' := 43) (by decide +kernel) ?_
        refine iw_goto (off := 5) (pc' := 48) (by decide +kernel) ?_
        obtain rfl := Option.some.inj hf
        exact iw_sub [0, 1, 2, 3] rfl hjq26
set_option maxRecDepth 100000 in
set_option maxHeartbeats 4000000 in
theorem lpX9_measures_80_ok (l : Launch) (κ : ic_K) (sw : Nat) (x1_ : Int32) (x3_ : Int32) (x4_ : Int32) {Z : State → List Frame → Array Value → State → Prop} {R : ic_M} (hk : ic_W l κ MX9_measures ic_X0 Z 172 [(0, ic_rv κ.1 90), (1, .int x1_), (3, .int x3_), (4, .int x4_)] [] 106 (ic_rs sw) R 0 0) : ∀ (fu : Nat) (y5_ : Int32) (μ : ic_M), lpX9_measures_80 x1_ x3_ x4_ fu y5_ μ = some R → ic_W l κ MX9_measures ic_X0 Z 80 [(0, ic_rv κ.1 90), (1, .int x1_), (3, .int x3_), (4, .int x4_), (5, .int y5_)] [] 106 (ic_rs sw) μ 0 0 := by
  intro fu
  induction fu with
  | zero =>
    intro y5_ μ hf
    exact absurd hf (by simp [lpX9_measures_80])
  | succ fu ih =>
    intro y5_ μ hf
    rw [lpX9_measures_80] at hf
    refine iw_iload (i := 5) (pc' := 82) 4 rfl (by decide +kernel) ?_
    refine iw_aload_n (i := 0) (pc' := 83) 0 rfl (by decide +kernel) ?_
    obtain ⟨v32, hc, hf⟩ := ic_bd hf
    refine iw_callV (pc' := 86) (S0 := [.int y5_]) (S1 := [.int v32, .int y5_]) (c1 := 0) (s1 := 0) (k := 0) (ct_X9_cells l κ sw μ hc) cO_90 ⟨rfl, rfl⟩ mv_X9_cells lkm_X9_120 ⟨rfl, rfl⟩ (ic_sum8 ⟨rfl, trivial⟩ (Nat.le_of_ble_eq_true rfl)) (by unfold ic_rm; decide +kernel) ⟨rfl, rfl, rfl⟩ ⟨Nat.le_of_ble_eq_true rfl, Nat.le_of_ble_eq_true rfl⟩ ?_
    refine iw_icmp_ge (off := 86) (tg := 172) (pc' := 89) hf (by decide +kernel) (fun hf => ?_) (fun hf => ?_)
    · obtain rfl := Option.some.inj hf
      exact iw_sub [0, 1, 2, 3] rfl hk
    · refine iw_aload_n (i := 0) (pc' := 90) 0 rfl (by decide +kernel) ?_
      refine iw_iload (i := 4) (pc' := 92) 3 rfl (by decide +kernel) ?_
      refine iw_iload (i := 5) (pc' := 94) 4 rfl (by decide +kernel) ?_
      obtain ⟨v33, hc, hf⟩ := ic_bd hf
      refine iw_callV (pc' := 97) (S0 := []) (S1 := [.int v33]) (c1 := 0) (s1 := 0) (k := 2) (ct_X9_areNext l κ sw μ x4_ y5_ hc) cO_90 ⟨rfl, rfl⟩ mv_X9_areNext lkm_X9_132 ⟨rfl, rfl⟩ (ic_sum8 trivial (Nat.le_of_ble_eq_true rfl)) (by unfold ic_rm; decide +kernel) ⟨rfl, rfl, rfl⟩ ⟨Nat.le_of_ble_eq_true rfl, Nat.le_of_ble_eq_true rfl⟩ ?_
      obtain ⟨q34, hf, hgq34⟩ := ic_bd hf
      have hjq34 : ic_W l κ MX9_measures ic_X0 Z 139 [(0, ic_rv κ.1 90), (1, .int x1_), (3, .int x3_), (4, .int x4_), (5, .int y5_)] [.int q34.1] 106 (ic_rs sw) q34.2 0 0 := by
        have hf := hgq34
        refine iw_istore0 (i := 6) (pc' := 141) (L' := [(0, ic_rv κ.1 90), (1, .int x1_), (3, .int x3_), (4, .int x4_), (5, .int y5_), (6, .int q34.1)]) rfl (by decide +kernel) ?_
        refine iw_aload_n (i := 0) (pc' := 142) 0 rfl (by decide +kernel) ?_
        refine iw_getr (pc' := 145) (q := 106) ic_fk9 cO_90 rfl lkf_X9_60 (by decide +kernel) ?_
        refine iw_iload (i := 4) (pc' := 147) 3 rfl (by decide +kernel) ?_
        refine iw_iload (i := 6) (pc' := 149) 5 rfl (by decide +kernel) ?_
        obtain ⟨q38, hf, hgq38⟩ := ic_bd hf
        have hjq38 : ic_W l κ MX9_measures ic_X0 Z 165 [(0, ic_rv κ.1 90), (1, .int x1_), (3, .int x3_), (4, .int x4_), (5, .int y5_)] [.int q38, .int x4_, ic_rv κ.1 106] 106 (ic_rs sw) q34.2 0 0 := by
          have hf := hgq38
          refine iw_iast (pc' := 166) hf (fun _ => cI_106) (by decide +kernel) (fun m40 hf => ?_)
          refine iw_iinc (i := 5) (d := 1) (pc' := 169) (v := (1 : Int32)) (L1 := fun x41 => [(0, ic_rv κ.1 90), (1, .int x1_), (3, .int x3_), (4, .int x4_), (5, .int x41)]) hf 4 rfl (fun _ => rfl) (by decide +kernel) (fun x41 hf => ?_)
          refine iw_goto (off := (-89)) (pc' := 80) (by decide +kernel) ?_
          exact iw_sub [0, 1, 2, 3, 4] rfl (ih _ _ hf)
        refine iw_if_eq (off := 9) (tg := 158) (pc' := 152) hf (by decide +kernel) (fun hf => ?_) (fun hf => ?_)
        · refine iw_aload_n (i := 0) (pc' := 159) 0 rfl (by decide +kernel) ?_
          refine iw_getr (pc' := 162) (q := 106) ic_fk9 cO_90 rfl lkf_X9_60 (by decide +kernel) ?_
          refine iw_iload (i := 4) (pc' := 164) 3 rfl (by decide +kernel) ?_
          refine iw_iald (pc' := 165) hf (fun _ => cI_106) (by decide +kernel) (fun v39 hf => ?_)
          obtain rfl := Option.some.inj hf
          exact iw_sub [0, 1, 2, 3, 4] rfl hjq38
        · refine iw_iload_n (i := 3) (pc' := 153) 2 rfl (by decide +kernel) ?_
          refine iw_iconst (i := 1) (v := (1 : Int32)) (pc' := 154) (by decide +kernel) ?_
          refine iw_iadd (pc' := 155) (by decide +kernel) ?_
          refine iw_goto (off := 10) (pc' := 165) (by decide +kernel) ?_
          obtain rfl := Option.some.inj hf
          exact iw_sub [0, 1, 2, 3, 4] rfl hjq38
      refine iw_if_eq (off := 41) (tg := 138) (pc' := 100) hf (by decide +kernel) (fun hf => ?_) (fun hf => ?_)
      · refine iw_iconst (i := 0) (v := (0 : Int32)) (pc' := 139) (by decide +kernel) ?_
        obtain rfl := Option.some.inj hf
        exact iw_sub [0, 1, 2, 3, 4] rfl hjq34
      · refine iw_aload_n (i := 0) (pc' := 101) 0 rfl (by decide +kernel) ?_
        refine iw_getr (pc' := 104) (q := 106) ic_fk9 cO_90 rfl lkf_X9_60 (by decide +kernel) ?_
        refine iw_iload (i := 5) (pc' := 106) 4 rfl (by decide +kernel) ?_
        refine iw_iald (pc' := 107) hf (fun _ => cI_106) (by decide +kernel) (fun v35 hf => ?_)
        refine iw_iload_n (i := 3) (pc' := 108) 2 rfl (by decide +kernel) ?_
        refine iw_icmp_ne (off := 30) (tg := 138) (pc' := 111) hf (by decide +kernel) (fun hf => ?_) (fun hf => ?_)
        · refine iw_iconst (i := 0) (v := (0 : Int32)) (pc' := 139) (by decide +kernel) ?_
          obtain rfl := Option.some.inj hf
          exact iw_sub [0, 1, 2, 3, 4] rfl hjq34
        · refine iw_aload_n (i := 0) (pc' := 112) 0 rfl (by decide +kernel) ?_
          refine iw_getr (pc' := 115) (q := 106) ic_fk9 cO_90 rfl lkf_X9_60 (by decide +kernel) ?_
          refine iw_iload (i := 4) (pc' := 117) 3 rfl (by decide +kernel) ?_
          refine iw_iald (pc' := 118) hf (fun _ => cI_106) (by decide +kernel) (fun v36 hf => ?_)
          refine iw_iload_n (i := 3) (pc' := 119) 2 rfl (by decide +kernel) ?_
          refine iw_iconst (i := 1) (v := (1 : Int32)) (pc' := 120) (by decide +kernel) ?_
          refine iw_iadd (pc' := 121) (by decide +kernel) ?_
          refine iw_icmp_le (off := 17) (tg := 138) (pc' := 124) hf (by decide +kernel) (fun hf => ?_) (fun hf => ?_)
          · refine iw_iconst (i := 0) (v := (0 : Int32)) (pc' := 139) (by decide +kernel) ?_
            obtain rfl := Option.some.inj hf
            exact iw_sub [0, 1, 2, 3, 4] rfl hjq34
          · refine iw_aload_n (i := 0) (pc' := 125) 0 rfl (by decide +kernel) ?_
            refine iw_iload_n (i := 1) (pc' := 126) 1 rfl (by decide +kernel) ?_
            refine iw_iload (i := 5) (pc' := 128) 4 rfl (by decide +kernel) ?_
            obtain ⟨q37, hc, hf⟩ := ic_bd hf
            refine iw_callV (pc' := 131) (S0 := []) (S1 := [.int q37.1]) (c1 := 0) (s1 := 0) (k := 2) (ct_X9_isSafe l κ sw μ x1_ y5_ hc) cO_90 ⟨rfl, rfl⟩ mv_X9_isSafe lkm_X9_243 ⟨rfl, rfl⟩ (ic_sum8 trivial (Nat.le_of_ble_eq_true rfl)) (by unfold ic_rm; decide +kernel) ⟨rfl, rfl, rfl⟩ ⟨Nat.le_of_ble_eq_true rfl, Nat.le_of_ble_eq_true rfl⟩ ?_
            refine iw_if_eq (off := 7) (tg := 138) (pc' := 134) hf (by decide +kernel) (fun hf => ?_) (fun hf => ?_)
            · refine iw_iconst (i := 0) (v := (0 : Int32)) (pc' := 139) (by decide +kernel) ?_
              obtain rfl := Option.some.inj hf
              exact iw_sub [0, 1, 2, 3, 4] rfl hjq34
            · refine iw_iconst (i := 1) (v := (1 : Int32)) (pc' := 135) (by decide +kernel) ?_
              refine iw_goto (off := 4) (pc' := 139) (by decide +kernel) ?_
              obtain rfl := Option.some.inj hf
              exact iw_sub [0, 1, 2, 3, 4] rfl hjq34
set_option maxRecDepth 100000 in
set_option maxHeartbeats 4000000 in
theorem lpX9_measures_68_ok (l : Launch) (κ : ic_K) (sw : Nat) (x1_ : Int32) (x3_ : Int32) {Z : State → List Frame → Array Value → State → Prop} {R : ic_M} (hk : ic_W l κ MX9_measures ic_X0 Z 178 [(0, ic_rv κ.1 90), (1, .int x1_), (3, .int x3_)] [] 106 (ic_rs sw) R 0 0) : ∀ (fu : Nat) (y4_ : Int32) (μ : ic_M), lpX9_measures_68 x1_ x3_ fu y4_ μ = some R → ic_W l κ MX9_measures ic_X0 Z 68 [(0, ic_rv κ.1 90), (1, .int x1_), (3, .int x3_), (4, .int y4_)] [] 106 (ic_rs sw) μ 0 0 := by
  intro fu
  induction fu with
  | zero =>
    intro y4_ μ hf
    exact absurd hf (by simp [lpX9_measures_68])
  | succ fu ih =>
    intro y4_ μ hf
    rw [lpX9_measures_68] at hf
    refine iw_iload (i := 4) (pc' := 70) 3 rfl (by decide +kernel) ?_
    refine iw_aload_n (i := 0) (pc' := 71) 0 rfl (by decide +kernel) ?_
    obtain ⟨v31, hc, hf⟩ := ic_bd hf
    refine iw_callV (pc' := 74) (S0 := [.int y4_]) (S1 := [.int v31, .int y4_]) (c1 := 0) (s1 := 0) (k := 0) (ct_X9_cells l κ sw μ hc) cO_90 ⟨rfl, rfl⟩ mv_X9_cells lkm_X9_120 ⟨rfl, rfl⟩ (ic_sum8 ⟨rfl, trivial⟩ (Nat.le_of_ble_eq_true rfl)) (by unfold ic_rm; decide +kernel) ⟨rfl, rfl, rfl⟩ ⟨Nat.le_of_ble_eq_true rfl, Nat.le_of_ble_eq_true rfl⟩ ?_
    refine iw_icmp_ge (off := 104) (tg := 178) (pc' := 77) hf (by decide +kernel) (fun hf => ?_) (fun hf => ?_)
    · obtain rfl := Option.some.inj hf
      exact iw_sub [0, 1, 2] rfl hk
    · refine iw_iconst (i := 0) (v := (0 : Int32)) (pc' := 78) (by decide +kernel) ?_
      refine iw_istore0 (i := 5) (pc' := 80) (L' := [(0, ic_rv κ.1 90), (1, .int x1_), (3, .int x3_), (4, .int y4_), (5, .int (0 : Int32))]) rfl (by decide +kernel) ?_
      obtain ⟨q42, hf, hgq42⟩ := ic_bd hf
      have hjq42 : ic_W l κ MX9_measures ic_X0 Z 172 [(0, ic_rv κ.1 90), (1, .int x1_), (3, .int x3_), (4, .int y4_)] [] 106 (ic_rs sw) q42 0 0 := by
        have hf := hgq42
        refine iw_iinc (i := 4) (d := 1) (pc' := 175) (v := (1 : Int32)) (L1 := fun x43 => [(0, ic_rv κ.1 90), (1, .int x1_), (3, .int x3_), (4, .int x43)]) hf 3 rfl (fun _ => rfl) (by decide +kernel) (fun x43 hf => ?_)
        refine iw_goto (off := (-107)) (pc' := 68) (by decide +kernel) ?_
        exact iw_sub [0, 1, 2, 3] rfl (ih _ _ hf)
      exact iw_sub [0, 1, 2, 3, 4] rfl (lpX9_measures_80_ok l κ sw x1_ x3_ y4_ hjq42 1000 (0 : Int32) μ hf)
set_option maxRecDepth 100000 in
set_option maxHeartbeats 4000000 in
theorem lpX9_measures_57_ok (l : Launch) (κ : ic_K) (sw : Nat) (x1_ : Int32) {Z : State → List Frame → Array Value → State → Prop} {R : ic_M} (hk : ic_W l κ MX9_measures ic_X0 Z 184 [] [] 106 (ic_rs sw) R 0 0) : ∀ (fu : Nat) (y3_ : Int32) (μ : ic_M), lpX9_measures_57 x1_ fu y3_ μ = some R → ic_W l κ MX9_measures ic_X0 Z 57 [(0, ic_rv κ.1 90), (1, .int x1_), (3, .int y3_)] [] 106 (ic_rs sw) μ 0 0 := by
  intro fu
  induction fu with
  | zero =>
    intro y3_ μ hf
    exact absurd hf (by simp [lpX9_measures_57])
  | succ fu ih =>
    intro y3_ μ hf
    rw [lpX9_measures_57] at hf
    refine iw_iload_n (i := 3) (pc' := 58) 2 rfl (by decide +kernel) ?_
    refine iw_aload_n (i := 0) (pc' := 59) 0 rfl (by decide +kernel) ?_
    obtain ⟨v30, hc, hf⟩ := ic_bd hf
    refine iw_callV (pc' := 62) (S0 := [.int y3_]) (S1 := [.int v30, .int y3_]) (c1 := 0) (s1 := 0) (k := 0) (ct_X9_cells l κ sw μ hc) cO_90 ⟨rfl, rfl⟩ mv_X9_cells lkm_X9_120 ⟨rfl, rfl⟩ (ic_sum8 ⟨rfl, trivial⟩ (Nat.le_of_ble_eq_true rfl)) (by unfold ic_rm; decide +kernel) ⟨rfl, rfl, rfl⟩ ⟨Nat.le_of_ble_eq_true rfl, Nat.le_of_ble_eq_true rfl⟩ ?_
    refine iw_icmp_ge (off := 122) (tg := 184) (pc' := 65) hf (by decide +kernel) (fun hf => ?_) (fun hf => ?_)
    · obtain rfl := Option.some.inj hf
      exact iw_sub [] rfl hk
    · refine iw_iconst (i := 0) (v := (0 : Int32)) (pc' := 66) (by decide +kernel) ?_
      refine iw_istore0 (i := 4) (pc' := 68) (L' := [(0, ic_rv κ.1 90), (1, .int x1_), (3, .int y3_), (4, .int (0 : Int32))]) rfl (by decide +kernel) ?_
      obtain ⟨q44, hf, hgq44⟩ := ic_bd hf
      have hjq44 : ic_W l κ MX9_measures ic_X0 Z 178 [(0, ic_rv κ.1 90), (1, .int x1_), (3, .int y3_)] [] 106 (ic_rs sw) q44 0 0 := by
        have hf := hgq44
        refine iw_iinc (i := 3) (d := 1) (pc' := 181) (v := (1 : Int32)) (L1 := fun x45 => [(0, ic_rv κ.1 90), (1, .int x1_), (3, .int x45)]) hf 2 rfl (fun _ => rfl) (by decide +kernel) (fun x45 hf => ?_)
        refine iw_goto (off := (-124)) (pc' := 57) (by decide +kernel) ?_
        exact iw_sub [0, 1, 2] rfl (ih _ _ hf)
      exact iw_sub [0, 1, 2, 3] rfl (lpX9_measures_68_ok l κ sw x1_ y3_ hjq44 1000 (0 : Int32) μ hf)
set_option maxRecDepth 100000 in
set_option maxHeartbeats 4000000 in
theorem ct_X9_measures (l : Launch) (κ : ic_K) (sw : Nat) (μ : ic_M) (x1 : Int32) {R : ic_M} (hf : fX9_measures μ x1 = some R) : ic_C l κ MX9_measures [ic_rv κ.1 90, .int x1] 106 (ic_rs sw) μ none 106 (ic_rs sw) R := by
  refine ic_C.of (L := [(0, ic_rv κ.1 90), (1, .int x1)]) ⟨ic_cat _ _, rfl, trivial⟩ ⟨by decide +kernel, Nat.le_of_ble_eq_true rfl⟩ rfl ?_
  unfold fX9_measures at hf
  refine iw_aload_n (i := 0) (pc' := 1) 0 rfl (by decide +kernel) ?_
  refine iw_getr (pc' := 4) (q := 92) ic_fk9 cO_90 rfl lkf_X9_17 (by decide +kernel) ?_
  refine iw_iconst (i := 0) (v := (0 : Int32)) (pc' := 5) (by decide +kernel) ?_
  refine iw_iald (pc' := 6) hf (fun _ => cI_92) (by decide +kernel) (fun v21 hf => ?_)
  refine iw_iconst (i := 1) (v := (1 : Int32)) (pc' := 7) (by decide +kernel) ?_
  refine iw_isub (pc' := 8) (by decide +kernel) ?_
  refine iw_aload_n (i := 0) (pc' := 9) 0 rfl (by decide +kernel) ?_
  refine iw_iload_n (i := 1) (pc' := 10) 1 rfl (by decide +kernel) ?_
  obtain ⟨v22, hc, hf⟩ := ic_bd hf
  refine iw_callV (pc' := 13) (S0 := [.int (v21 - (1 : Int32))]) (S1 := [.int v22, .int (v21 - (1 : Int32))]) (c1 := 0) (s1 := 0) (k := 1) (ct_X9_columnOf l κ sw μ x1 hc) cO_90 ⟨rfl, rfl⟩ mv_X9_columnOf lkm_X9_154 ⟨rfl, rfl⟩ (ic_sum8 ⟨rfl, trivial⟩ (Nat.le_of_ble_eq_true rfl)) (by unfold ic_rm; decide +kernel) ⟨rfl, rfl, rfl⟩ ⟨Nat.le_of_ble_eq_true rfl, Nat.le_of_ble_eq_true rfl⟩ ?_
  refine iw_isub (pc' := 14) (by decide +kernel) ?_
  refine iw_istore_n (i := 2) (pc' := 15) (L1 := fun x23 => [(0, ic_rv κ.1 90), (1, .int x1), (2, .int x23)]) hf (fun _ => rfl) (by decide +kernel) (fun x23 hf => ?_)
  refine iw_iconst (i := 0) (v := (0 : Int32)) (pc' := 16) (by decide +kernel) ?_
  refine iw_istore_n0 (i := 3) (pc' := 17) (L' := [(0, ic_rv κ.1 90), (1, .int x1), (2, .int x23), (3, .int (0 : Int32))]) rfl (by decide +kernel) ?_
  obtain ⟨q29, hf, hgq29⟩ := ic_bd hf
  have hjq29 : ic_W l κ MX9_measures ic_X0 (ic_Z κ MX9_measures none 106 (ic_rs sw) R) 55 [(0, ic_rv κ.1 90), (1, .int x1)] [] 106 (ic_rs sw) q29 0 0 := by
    have hf := hgq29
    refine iw_iconst (i := 0) (v := (0 : Int32)) (pc' := 56) (by decide +kernel) ?_
    refine iw_istore_n0 (i := 3) (pc' := 57) (L' := [(0, ic_rv κ.1 90), (1, .int x1), (3, .int (0 : Int32))]) rfl (by decide +kernel) ?_
    obtain ⟨q46, hf, hgq46⟩ := ic_bd hf
    have hjq46 : ic_W l κ MX9_measures ic_X0 (ic_Z κ MX9_measures none 106 (ic_rs sw) R) 184 [] [] 106 (ic_rs sw) q46 0 0 := by
      have hf := hgq46
      exact iw_vreturn rfl (Option.some.inj hf) (by decide +kernel)
    exact iw_sub [0, 1, 2] rfl (lpX9_measures_57_ok l κ sw x1 hjq46 1000 (0 : Int32) q29 hf)
  exact iw_sub [0, 1, 2, 3] rfl (lpX9_measures_17_ok l κ sw x1 x23 hjq29 1000 (0 : Int32) μ hf)
set_option maxRecDepth 100000 in
set_option maxHeartbeats 4000000 in
theorem lpX9_over_89_ok (l : Launch) (κ : ic_K) (sw : Nat) (x1_ : Int32) (x2_ : Int32) {Z : State → List Frame → Array Value → State → Prop} {R : Int32 × ic_M} (hk : ic_W l κ MX9_over ic_X0 Z 168 [(0, ic_rv κ.1 90), (2, .int x2_), (3, .int R.1)] [] 106 (ic_rs sw) R.2 0 0) : ∀ (fu : Nat) (y3_ : Int32) (y4_ : Int32) (μ : ic_M), lpX9_over_89 x1_ x2_ fu y3_ y4_ μ = some R → ic_W l κ MX9_over ic_X0 Z 89 [(0, ic_rv κ.1 90), (1, .int x1_), (2, .int x2_), (3, .int y3_), (4, .int y4_)] [] 106 (ic_rs sw) μ 0 0 := by
  intro fu
  induction fu with
  | zero =>
    intro y3_ y4_ μ hf
    exact absurd hf (by simp [lpX9_over_89])
  | succ fu ih =>
    intro y3_ y4_ μ hf
    rw [lpX9_over_89] at hf
    refine iw_iload (i := 4) (pc' := 91) 4 rfl (by decide +kernel) ?_
    refine iw_aload_n (i := 0) (pc' := 92) 0 rfl (by decide +kernel) ?_
    obtain ⟨v26, hc, hf⟩ := ic_bd hf
    refine iw_callV (pc' := 95) (S0 := [.int y4_]) (S1 := [.int v26, .int y4_]) (c1 := 0) (s1 := 0) (k := 0) (ct_X9_cells l κ sw μ hc) cO_90 ⟨rfl, rfl⟩ mv_X9_cells lkm_X9_120 ⟨rfl, rfl⟩ (ic_sum8 ⟨rfl, trivial⟩ (Nat.le_of_ble_eq_true rfl)) (by unfold ic_rm; decide +kernel) ⟨rfl, rfl, rfl⟩ ⟨Nat.le_of_ble_eq_true rfl, Nat.le_of_ble_eq_true rfl⟩ ?_
    refine iw_icmp_ge (off := 73) (tg := 168) (pc' := 98) hf (by decide +kernel) (fun hf => ?_) (fun hf => ?_)
    · obtain rfl := Option.some.inj hf
      exact iw_sub [0, 2, 3] rfl hk
    · refine iw_aload_n (i := 0) (pc' := 99) 0 rfl (by decide +kernel) ?_
      refine iw_aload_n (i := 0) (pc' := 100) 0 rfl (by decide +kernel) ?_
      refine iw_getr (pc' := 103) (q := 98) ic_fk9 cO_90 rfl lkf_X9_35 (by decide +kernel) ?_
      refine iw_iload_n (i := 1) (pc' := 104) 1 rfl (by decide +kernel) ?_
      refine iw_iload (i := 4) (pc' := 106) 4 rfl (by decide +kernel) ?_
      obtain ⟨v27, hc, hf⟩ := ic_bd hf
      refine iw_callV (pc' := 109) (S0 := []) (S1 := [.int v27]) (c1 := 0) (s1 := 0) (k := 3) (ct_X9_canGo l κ sw μ 98 x1_ y4_ hc) cO_90 ⟨rfl, rfl⟩ mv_X9_canGo lkm_X9_212 ⟨rfl, rfl⟩ (ic_sum8 trivial (Nat.le_of_ble_eq_true rfl)) (by unfold ic_rm; decide +kernel) ⟨rfl, rfl, rfl⟩ ⟨Nat.le_of_ble_eq_true rfl, Nat.le_of_ble_eq_true rfl⟩ ?_
      obtain ⟨q28, hf, hgq28⟩ := ic_bd hf
      have hjq28 : ic_W l κ MX9_over ic_X0 Z 161 [(0, ic_rv κ.1 90), (1, .int x1_), (2, .int x2_), (4, .int y4_)] [.int q28.1] 106 (ic_rs sw) q28.2 0 0 := by
        have hf := hgq28
        refine iw_istore_n0 (i := 3) (pc' := 162) (L' := [(0, ic_rv κ.1 90), (1, .int x1_), (2, .int x2_), (3, .int q28.1), (4, .int y4_)]) rfl (by decide +kernel) ?_
        refine iw_iinc (i := 4) (d := 1) (pc' := 165) (v := (1 : Int32)) (L1 := fun x33 => [(0, ic_rv κ.1 90), (1, .int x1_), (2, .int x2_), (3, .int q28.1), (4, .int x33)]) hf 4 rfl (fun _ => rfl) (by decide +kernel) (fun x33 hf => ?_)
        refine iw_goto (off := (-76)) (pc' := 89) (by decide +kernel) ?_
        exact iw_sub [0, 1, 2, 3, 4] rfl (ih _ _ _ hf)
      refine iw_if_eq (off := 51) (tg := 160) (pc' := 112) hf (by decide +kernel) (fun hf => ?_) (fun hf => ?_)
      · refine iw_iload_n (i := 3) (pc' := 161) 3 rfl (by decide +kernel) ?_
        obtain rfl := Option.some.inj hf
        exact iw_sub [0, 1, 2, 4] rfl hjq28
      · refine iw_aload_n (i := 0) (pc' := 113) 0 rfl (by decide +kernel) ?_
        refine iw_getr (pc' := 116) (q := 106) ic_fk9 cO_90 rfl lkf_X9_60 (by decide +kernel) ?_
        refine iw_iload (i := 4) (pc' := 118) 4 rfl (by decide +kernel) ?_
        refine iw_iald (pc' := 119) hf (fun _ => cI_106) (by decide +kernel) (fun v29 hf => ?_)
        refine iw_bipush (i := 99) (v := (99 : Int32)) (pc' := 121) (by decide +kernel) ?_
        refine iw_icmp_ge (off := 39) (tg := 160) (pc' := 124) hf (by decide +kernel) (fun hf => ?_) (fun hf => ?_)
        · refine iw_iload_n (i := 3) (pc' := 161) 3 rfl (by decide +kernel) ?_
          obtain rfl := Option.some.inj hf
          exact iw_sub [0, 1, 2, 4] rfl hjq28
        · refine iw_aload_n (i := 0) (pc' := 125) 0 rfl (by decide +kernel) ?_
          refine iw_iload_n (i := 1) (pc' := 126) 1 rfl (by decide +kernel) ?_
          refine iw_iload (i := 4) (pc' := 128) 4 rfl (by decide +kernel) ?_
          obtain ⟨q30, hc, hf⟩ := ic_bd hf
          refine iw_callV (pc' := 131) (S0 := []) (S1 := [.int q30.1]) (c1 := 0) (s1 := 0) (k := 2) (ct_X9_isSafe l κ sw μ x1_ y4_ hc) cO_90 ⟨rfl, rfl⟩ mv_X9_isSafe lkm_X9_243 ⟨rfl, rfl⟩ (ic_sum8 trivial (Nat.le_of_ble_eq_true rfl)) (by unfold ic_rm; decide +kernel) ⟨rfl, rfl, rfl⟩ ⟨Nat.le_of_ble_eq_true rfl, Nat.le_of_ble_eq_true rfl⟩ ?_
          refine iw_if_eq (off := 29) (tg := 160) (pc' := 134) hf (by decide +kernel) (fun hf => ?_) (fun hf => ?_)
          · refine iw_iload_n (i := 3) (pc' := 161) 3 rfl (by decide +kernel) ?_
            obtain rfl := Option.some.inj hf
            exact iw_sub [0, 1, 2, 4] rfl hjq28
          · refine iw_iload_n (i := 3) (pc' := 135) 3 rfl (by decide +kernel) ?_
            refine iw_iconst (i := (-1)) (v := (-1 : Int32)) (pc' := 136) (by decide +kernel) ?_
            refine iw_icmp_eq (off := 19) (tg := 155) (pc' := 139) hf (by decide +kernel) (fun hf => ?_) (fun hf => ?_)
            · refine iw_iload (i := 4) (pc' := 157) 4 rfl (by decide +kernel) ?_
              refine iw_goto (off := 4) (pc' := 161) (by decide +kernel) ?_
              obtain rfl := Option.some.inj hf
              exact iw_sub [0, 1, 2, 4] rfl hjq28
            · refine iw_aload_n (i := 0) (pc' := 140) 0 rfl (by decide +kernel) ?_
              refine iw_getr (pc' := 143) (q := 106) ic_fk9 cO_90 rfl lkf_X9_60 (by decide +kernel) ?_
              refine iw_iload (i := 4) (pc' := 145) 4 rfl (by decide +kernel) ?_
              refine iw_iald (pc' := 146) hf (fun _ => cI_106) (by decide +kernel) (fun v31 hf => ?_)
              refine iw_aload_n (i := 0) (pc' := 147) 0 rfl (by decide +kernel) ?_
              refine iw_getr (pc' := 150) (q := 106) ic_fk9 cO_90 rfl lkf_X9_60 (by decide +kernel) ?_
              refine iw_iload_n (i := 3) (pc' := 151) 3 rfl (by decide +kernel) ?_
              refine iw_iald (pc' := 152) hf (fun _ => cI_106) (by decide +kernel) (fun v32 hf => ?_)
              refine iw_icmp_ge (off := 8) (tg := 160) (pc' := 155) hf (by decide +kernel) (fun hf => ?_) (fun hf => ?_)
              · refine iw_iload_n (i := 3) (pc' := 161) 3 rfl (by decide +kernel) ?_
                obtain rfl := Option.some.inj hf
                exact iw_sub [0, 1, 2, 4] rfl hjq28
              · refine iw_iload (i := 4) (pc' := 157) 4 rfl (by decide +kernel) ?_
                refine iw_goto (off := 4) (pc' := 161) (by decide +kernel) ?_
                obtain rfl := Option.some.inj hf
                exact iw_sub [0, 1, 2, 4] rfl hjq28
set_option maxRecDepth 100000 in
set_option maxHeartbeats 4000000 in
theorem ct_X9_over (l : Launch) (κ : ic_K) (sw : Nat) (μ : ic_M) (x1 : Int32) (x2 : Int32) {R : Int32 × ic_M} (hf : fX9_over μ x1 x2 = some R) : ic_C l κ MX9_over [ic_rv κ.1 90, .int x1, .int x2] 106 (ic_rs sw) μ (some (.int R.1)) 106 (ic_rs sw) R.2 := by
  refine ic_C.of (L := [(0, ic_rv κ.1 90), (1, .int x1), (2, .int x2)]) ⟨ic_cat _ _, rfl, rfl, trivial⟩ ⟨by decide +kernel, Nat.le_of_ble_eq_true rfl⟩ rfl ?_
  unfold fX9_over at hf
  refine iw_aload_n (i := 0) (pc' := 1) 0 rfl (by decide +kernel) ?_
  refine iw_iload_n (i := 1) (pc' := 2) 1 rfl (by decide +kernel) ?_
  obtain ⟨v21, hc, hf⟩ := ic_bd hf
  refine iw_callV (pc' := 5) (S0 := []) (S1 := [.int v21]) (c1 := 0) (s1 := 0) (k := 1) (ct_X9_isPerson l κ sw μ x1 hc) cO_90 ⟨rfl, rfl⟩ mv_X9_isPerson lkm_X9_195 ⟨rfl, rfl⟩ (ic_sum8 trivial (Nat.le_of_ble_eq_true rfl)) (by unfold ic_rm; decide +kernel) ⟨rfl, rfl, rfl⟩ ⟨Nat.le_of_ble_eq_true rfl, Nat.le_of_ble_eq_true rfl⟩ ?_
  refine iw_if_ne (off := 6) (tg := 11) (pc' := 8) hf (by decide +kernel) (fun hf => ?_) (fun hf => ?_)
  · refine iw_iload_n (i := 2) (pc' := 12) 2 rfl (by decide +kernel) ?_
    refine iw_iconst (i := 0) (v := (0 : Int32)) (pc' := 13) (by decide +kernel) ?_
    refine iw_iconst (i := 1) (v := (1 : Int32)) (pc' := 14) (by decide +kernel) ?_
    obtain ⟨v22, hc, hf⟩ := ic_bd hf
    refine iw_callS (pc' := 17) (S0 := []) (S1 := [.int v22]) (c1 := 0) (s1 := 0) (k := 3) (ct_X9_in l κ sw μ x2 (0 : Int32) (1 : Int32) hc) ms_X9_in lkm_X9_63 ⟨rfl, rfl⟩ (ic_sum8 trivial (Nat.le_of_ble_eq_true rfl)) (by unfold ic_rm; decide +kernel) ⟨rfl, rfl, rfl⟩ ⟨Nat.le_of_ble_eq_true rfl, Nat.le_of_ble_eq_true rfl⟩ ?_
    refine iw_if_ne (off := 6) (tg := 23) (pc' := 20) hf (by decide +kernel) (fun hf => ?_) (fun hf => ?_)
    · refine iw_aload_n (i := 0) (pc' := 24) 0 rfl (by decide +kernel) ?_
      refine iw_getr (pc' := 27) (q := 98) ic_fk9 cO_90 rfl lkf_X9_35 (by decide +kernel) ?_
      refine iw_bipush (i := 18) (v := (18 : Int32)) (pc' := 29) (by decide +kernel) ?_
      refine iw_iload_n (i := 1) (pc' := 30) 1 rfl (by decide +kernel) ?_
      refine iw_iadd (pc' := 31) (by decide +kernel) ?_
      refine iw_iald (pc' := 32) hf (fun _ => cI_98) (by decide +kernel) (fun v23 hf => ?_)
      refine iw_bipush (i := (-2)) (v := (-2 : Int32)) (pc' := 34) (by decide +kernel) ?_
      refine iw_icmp_ne (off := 6) (tg := 40) (pc' := 37) hf (by decide +kernel) (fun hf => ?_) (fun hf => ?_)
      · refine iw_aload_n (i := 0) (pc' := 41) 0 rfl (by decide +kernel) ?_
        refine iw_iload_n (i := 1) (pc' := 42) 1 rfl (by decide +kernel) ?_
        obtain ⟨m24, hc, hf⟩ := ic_bd hf
        refine iw_callV (pc' := 45) (S0 := []) (S1 := []) (c1 := 0) (s1 := 0) (k := 1) (ct_X9_measures l κ sw μ x1 hc) cO_90 ⟨rfl, rfl⟩ mv_X9_measures lkm_X9_246 ⟨rfl, rfl⟩ (ic_sum8 trivial (Nat.le_of_ble_eq_true rfl)) (by unfold ic_rm; decide +kernel) ⟨rfl, rfl, rfl⟩ ⟨Nat.le_of_ble_eq_true rfl, Nat.le_of_ble_eq_true rfl⟩ ?_
        refine iw_aload_n (i := 0) (pc' := 46) 0 rfl (by decide +kernel) ?_
        refine iw_getr (pc' := 49) (q := 98) ic_fk9 cO_90 rfl lkf_X9_35 (by decide +kernel) ?_
        refine iw_bipush (i := 18) (v := (18 : Int32)) (pc' := 51) (by decide +kernel) ?_
        refine iw_iload_n (i := 1) (pc' := 52) 1 rfl (by decide +kernel) ?_
        refine iw_iadd (pc' := 53) (by decide +kernel) ?_
        refine iw_iald (pc' := 54) hf (fun _ => cI_98) (by decide +kernel) (fun v25 hf => ?_)
        refine iw_if_lt (off := 30) (tg := 84) (pc' := 57) hf (by decide +kernel) (fun hf => ?_) (fun hf => ?_)
        · refine iw_iconst (i := (-1)) (v := (-1 : Int32)) (pc' := 85) (by decide +kernel) ?_
          refine iw_istore_n0 (i := 3) (pc' := 86) (L' := [(0, ic_rv κ.1 90), (1, .int x1), (2, .int x2), (3, .int (-1 : Int32))]) rfl (by decide +kernel) ?_
          refine iw_iconst (i := 0) (v := (0 : Int32)) (pc' := 87) (by decide +kernel) ?_
          refine iw_istore0 (i := 4) (pc' := 89) (L' := [(0, ic_rv κ.1 90), (1, .int x1), (2, .int x2), (3, .int (-1 : Int32)), (4, .int (0 : Int32))]) rfl (by decide +kernel) ?_
          obtain ⟨q34, hf, hgq34⟩ := ic_bd hf
          have hjq34 : ic_W l κ MX9_over ic_X0 (ic_Z κ MX9_over (some (.int R.1)) 106 (ic_rs sw) R.2) 168 [(0, ic_rv κ.1 90), (2, .int x2), (3, .int q34.1)] [] 106 (ic_rs sw) q34.2 0 0 := by
            have hf := hgq34
            refine iw_iload_n (i := 3) (pc' := 169) 2 rfl (by decide +kernel) ?_
            refine iw_iconst (i := (-1)) (v := (-1 : Int32)) (pc' := 170) (by decide +kernel) ?_
            obtain ⟨q35, hf, hgq35⟩ := ic_bd hf
            have hjq35 : ic_W l κ MX9_over ic_X0 (ic_Z κ MX9_over (some (.int R.1)) 106 (ic_rs sw) R.2) 190 [] [.int q35] 106 (ic_rs sw) q34.2 0 0 := by
              have hf := hgq35
              exact iw_ireturn (ic_q1 (Option.some.inj hf)) rfl (ic_q2 (Option.some.inj hf)) (by decide +kernel)
            refine iw_icmp_eq (off := 8) (tg := 178) (pc' := 173) hf (by decide +kernel) (fun hf => ?_) (fun hf => ?_)
            · refine iw_iload_n (i := 3) (pc' := 179) 2 rfl (by decide +kernel) ?_
              refine iw_goto (off := 11) (pc' := 190) (by decide +kernel) ?_
              obtain rfl := Option.some.inj hf
              exact iw_sub [] rfl hjq35
            · refine iw_iload_n (i := 2) (pc' := 174) 1 rfl (by decide +kernel) ?_
              refine iw_iconst (i := 1) (v := (1 : Int32)) (pc' := 175) (by decide +kernel) ?_
              refine iw_icmp_ne (off := 7) (tg := 182) (pc' := 178) hf (by decide +kernel) (fun hf => ?_) (fun hf => ?_)
              · refine iw_aload_n (i := 0) (pc' := 183) 0 rfl (by decide +kernel) ?_
                refine iw_getr (pc' := 186) (q := 106) ic_fk9 cO_90 rfl lkf_X9_60 (by decide +kernel) ?_
                refine iw_iload_n (i := 3) (pc' := 187) 2 rfl (by decide +kernel) ?_
                refine iw_iald (pc' := 188) hf (fun _ => cI_106) (by decide +kernel) (fun v36 hf => ?_)
                refine iw_iconst (i := 1) (v := (1 : Int32)) (pc' := 189) (by decide +kernel) ?_
                refine iw_iadd (pc' := 190) (by decide +kernel) ?_
                obtain rfl := Option.some.inj hf
                exact iw_sub [] rfl hjq35
              · refine iw_iload_n (i := 3) (pc' := 179) 2 rfl (by decide +kernel) ?_
                refine iw_goto (off := 11) (pc' := 190) (by decide +kernel) ?_
                obtain rfl := Option.some.inj hf
                exact iw_sub [] rfl hjq35
          exact iw_sub [0, 1, 2, 3, 4] rfl (lpX9_over_89_ok l κ sw x1 x2 hjq34 1000 (-1 : Int32) (0 : Int32) m24 hf)
        · refine iw_aload_n (i := 0) (pc' := 58) 0 rfl (by decide +kernel) ?_
          refine iw_getr (pc' := 61) (q := 106) ic_fk9 cO_90 rfl lkf_X9_60 (by decide +kernel) ?_
          refine iw_aload_n (i := 0) (pc' := 62) 0 rfl (by decide +kernel) ?_
          refine iw_getr (pc' := 65) (q := 98) ic_fk9 cO_90 rfl lkf_X9_35 (by decide +kernel) ?_
          refine iw_bipush (i := 18) (v := (18 : Int32)) (pc' := 67) (by decide +kernel) ?_
          refine iw_iload_n (i := 1) (pc' := 68) 1 rfl (by decide +kernel) ?_
          refine iw_iadd (pc' := 69) (by decide +kernel) ?_
          refine iw_iald (pc' := 70) hf (fun _ => cI_98) (by decide +kernel) (fun v37 hf => ?_)
          refine iw_iald (pc' := 71) hf (fun _ => cI_106) (by decide +kernel) (fun v38 hf => ?_)
          refine iw_if_ne (off := 13) (tg := 84) (pc' := 74) hf (by decide +kernel) (fun hf => ?_) (fun hf => ?_)
          · refine iw_iconst (i := (-1)) (v := (-1 : Int32)) (pc' := 85) (by decide +kernel) ?_
            refine iw_istore_n0 (i := 3) (pc' := 86) (L' := [(0, ic_rv κ.1 90), (1, .int x1), (2, .int x2), (3, .int (-1 : Int32))]) rfl (by decide +kernel) ?_
            refine iw_iconst (i := 0) (v := (0 : Int32)) (pc' := 87) (by decide +kernel) ?_
            refine iw_istore0 (i := 4) (pc' := 89) (L' := [(0, ic_rv κ.1 90), (1, .int x1), (2, .int x2), (3, .int (-1 : Int32)), (4, .int (0 : Int32))]) rfl (by decide +kernel) ?_
            obtain ⟨q47, hf, hgq47⟩ := ic_bd hf
            have hjq47 : ic_W l κ MX9_over ic_X0 (ic_Z κ MX9_over (some (.int R.1)) 106 (ic_rs sw) R.2) 168 [(0, ic_rv κ.1 90), (2, .int x2), (3, .int q47.1)] [] 106 (ic_rs sw) q47.2 0 0 := by
              have hf := hgq47
              refine iw_iload_n (i := 3) (pc' := 169) 2 rfl (by decide +kernel) ?_
              refine iw_iconst (i := (-1)) (v := (-1 : Int32)) (pc' := 170) (by decide +kernel) ?_
              obtain ⟨q48, hf, hgq48⟩ := ic_bd hf
              have hjq48 : ic_W l κ MX9_over ic_X0 (ic_Z κ MX9_over (some (.int R.1)) 106 (ic_rs sw) R.2) 190 [] [.int q48] 106 (ic_rs sw) q47.2 0 0 := by
                have hf := hgq48
                exact iw_ireturn (ic_q1 (Option.some.inj hf)) rfl (ic_q2 (Option.some.inj hf)) (by decide +kernel)
              refine iw_icmp_eq (off := 8) (tg := 178) (pc' := 173) hf (by decide +kernel) (fun hf => ?_) (fun hf => ?_)
              · refine iw_iload_n (i := 3) (pc' := 179) 2 rfl (by decide +kernel) ?_
                refine iw_goto (off := 11) (pc' := 190) (by decide +kernel) ?_
                obtain rfl := Option.some.inj hf
                exact iw_sub [] rfl hjq48
              · refine iw_iload_n (i := 2) (pc' := 174) 1 rfl (by decide +kernel) ?_
                refine iw_iconst (i := 1) (v := (1 : Int32)) (pc' := 175) (by decide +kernel) ?_
                refine iw_icmp_ne (off := 7) (tg := 182) (pc' := 178) hf (by decide +kernel) (fun hf => ?_) (fun hf => ?_)
                · refine iw_aload_n (i := 0) (pc' := 183) 0 rfl (by decide +kernel) ?_
                  refine iw_getr (pc' := 186) (q := 106) ic_fk9 cO_90 rfl lkf_X9_60 (by decide +kernel) ?_
                  refine iw_iload_n (i := 3) (pc' := 187) 2 rfl (by decide +kernel) ?_
                  refine iw_iald (pc' := 188) hf (fun _ => cI_106) (by decide +kernel) (fun v49 hf => ?_)
                  refine iw_iconst (i := 1) (v := (1 : Int32)) (pc' := 189) (by decide +kernel) ?_
                  refine iw_iadd (pc' := 190) (by decide +kernel) ?_
                  obtain rfl := Option.some.inj hf
                  exact iw_sub [] rfl hjq48
                · refine iw_iload_n (i := 3) (pc' := 179) 2 rfl (by decide +kernel) ?_
                  refine iw_goto (off := 11) (pc' := 190) (by decide +kernel) ?_
                  obtain rfl := Option.some.inj hf
                  exact iw_sub [] rfl hjq48
            exact iw_sub [0, 1, 2, 3, 4] rfl (lpX9_over_89_ok l κ sw x1 x2 hjq47 1000 (-1 : Int32) (0 : Int32) m24 hf)
          · refine iw_iload_n (i := 2) (pc' := 75) 2 rfl (by decide +kernel) ?_
            obtain ⟨q50, hf, hgq50⟩ := ic_bd hf
            have hjq50 : ic_W l κ MX9_over ic_X0 (ic_Z κ MX9_over (some (.int R.1)) 106 (ic_rs sw) R.2) 83 [] [.int q50] 106 (ic_rs sw) m24 0 0 := by
              have hf := hgq50
              exact iw_ireturn (ic_q1 (Option.some.inj hf)) rfl (ic_q2 (Option.some.inj hf)) (by decide +kernel)
            refine iw_if_ne (off := 7) (tg := 82) (pc' := 78) hf (by decide +kernel) (fun hf => ?_) (fun hf => ?_)
            · refine iw_iconst (i := (-1)) (v := (-1 : Int32)) (pc' := 83) (by decide +kernel) ?_
              obtain rfl := Option.some.inj hf
              exact iw_sub [] rfl hjq50
            · refine iw_iconst (i := 0) (v := (0 : Int32)) (pc' := 79) (by decide +kernel) ?_
              refine iw_goto (off := 4) (pc' := 83) (by decide +kernel) ?_
              obtain rfl := Option.some.inj hf
              exact iw_sub [] rfl hjq50
      · refine iw_ldc (pc' := 39) lkc_X9_202 (by decide +kernel) ?_
        exact iw_ireturn (ic_q1 (Option.some.inj hf)) rfl (ic_q2 (Option.some.inj hf)) (by decide +kernel)
    · refine iw_ldc (pc' := 22) lkc_X9_67 (by decide +kernel) ?_
      exact iw_ireturn (ic_q1 (Option.some.inj hf)) rfl (ic_q2 (Option.some.inj hf)) (by decide +kernel)
  · refine iw_ldc (pc' := 10) lkc_X9_194 (by decide +kernel) ?_
    exact iw_ireturn (ic_q1 (Option.some.inj hf)) rfl (ic_q2 (Option.some.inj hf)) (by decide +kernel)
set_option maxRecDepth 100000 in
set_option maxHeartbeats 4000000 in
theorem lpX9_fewest_77_ok (l : Launch) (κ : ic_K) (sw : Nat) (x1_ : Int32) (x2_ : Int32) (x3_ : Int32) {Z : State → List Frame → Array Value → State → Prop} {R : ic_M} (hk : ic_W l κ MX9_fewest ic_X0 Z 127 [(0, ic_rv κ.1 90), (1, .int x1_), (2, .int x2_), (3, .int x3_)] [] 106 (ic_rs sw) R 0 0) : ∀ (fu : Nat) (y4_ : Int32) (μ : ic_M), lpX9_fewest_77 x1_ x2_ x3_ fu y4_ μ = some R → ic_W l κ MX9_fewest ic_X0 Z 77 [(0, ic_rv κ.1 90), (1, .int x1_), (2, .int x2_), (3, .int x3_), (4, .int y4_)] [] 106 (ic_rs sw) μ 0 0 := by
  intro fu
  induction fu with
  | zero =>
    intro y4_ μ hf
    exact absurd hf (by simp [lpX9_fewest_77])
  | succ fu ih =>
    intro y4_ μ hf
    rw [lpX9_fewest_77] at hf
    refine iw_iload (i := 4) (pc' := 79) 4 rfl (by decide +kernel) ?_
    refine iw_aload_n (i := 0) (pc' := 80) 0 rfl (by decide +kernel) ?_
    refine iw_getr (pc' := 83) (q := 92) ic_fk9 cO_90 rfl lkf_X9_17 (by decide +kernel) ?_
    refine iw_iconst (i := 3) (v := (3 : Int32)) (pc' := 84) (by decide +kernel) ?_
    refine iw_iald (pc' := 85) hf (fun _ => cI_92) (by decide +kernel) (fun v27 hf => ?_)
    refine iw_icmp_ge (off := 42) (tg := 127) (pc' := 88) hf (by decide +kernel) (fun hf => ?_) (fun hf => ?_)
    · obtain rfl := Option.some.inj hf
      exact iw_sub [0, 1, 2, 3] rfl hk
    · refine iw_aload_n (i := 0) (pc' := 89) 0 rfl (by decide +kernel) ?_
      refine iw_getr (pc' := 92) (q := 99) ic_fk9 cO_90 rfl lkf_X9_38 (by decide +kernel) ?_
      refine iw_bipush (i := 18) (v := (18 : Int32)) (pc' := 94) (by decide +kernel) ?_
      refine iw_iload (i := 4) (pc' := 96) 4 rfl (by decide +kernel) ?_
      refine iw_iadd (pc' := 97) (by decide +kernel) ?_
      refine iw_iload_n (i := 3) (pc' := 98) 3 rfl (by decide +kernel) ?_
      refine iw_iload (i := 4) (pc' := 100) 4 rfl (by decide +kernel) ?_
      obtain ⟨v28, hc, hf⟩ := ic_bd hf
      refine iw_callS (pc' := 103) (S0 := [.int ((18 : Int32) + y4_), ic_rv κ.1 99]) (S1 := [.int v28, .int ((18 : Int32) + y4_), ic_rv κ.1 99]) (c1 := 0) (s1 := 0) (k := 2) (ct_X9_has l κ sw μ x3_ y4_ hc) ms_X9_has lkm_X9_147 ⟨rfl, rfl⟩ (ic_sum8 ⟨rfl, ic_cat _ _, trivial⟩ (Nat.le_of_ble_eq_true rfl)) (by unfold ic_rm; decide +kernel) ⟨rfl, rfl, rfl⟩ ⟨Nat.le_of_ble_eq_true rfl, Nat.le_of_ble_eq_true rfl⟩ ?_
      obtain ⟨q29, hf, hgq29⟩ := ic_bd hf
      have hjq29 : ic_W l κ MX9_fewest ic_X0 Z 120 [(0, ic_rv κ.1 90), (1, .int x1_), (2, .int x2_), (3, .int x3_), (4, .int y4_)] [.int q29, .int ((18 : Int32) + y4_), ic_rv κ.1 99] 106 (ic_rs sw) μ 0 0 := by
        have hf := hgq29
        refine iw_iast (pc' := 121) hf (fun _ => cI_99) (by decide +kernel) (fun m31 hf => ?_)
        refine iw_iinc (i := 4) (d := 1) (pc' := 124) (v := (1 : Int32)) (L1 := fun x32 => [(0, ic_rv κ.1 90), (1, .int x1_), (2, .int x2_), (3, .int x3_), (4, .int x32)]) hf 4 rfl (fun _ => rfl) (by decide +kernel) (fun x32 hf => ?_)
        refine iw_goto (off := (-47)) (pc' := 77) (by decide +kernel) ?_
        exact iw_sub [0, 1, 2, 3, 4] rfl (ih _ _ hf)
      refine iw_if_eq (off := 7) (tg := 110) (pc' := 106) hf (by decide +kernel) (fun hf => ?_) (fun hf => ?_)
      · refine iw_aload_n (i := 0) (pc' := 111) 0 rfl (by decide +kernel) ?_
        refine iw_getr (pc' := 114) (q := 98) ic_fk9 cO_90 rfl lkf_X9_35 (by decide +kernel) ?_
        refine iw_bipush (i := 18) (v := (18 : Int32)) (pc' := 116) (by decide +kernel) ?_
        refine iw_iload (i := 4) (pc' := 118) 4 rfl (by decide +kernel) ?_
        refine iw_iadd (pc' := 119) (by decide +kernel) ?_
        refine iw_iald (pc' := 120) hf (fun _ => cI_98) (by decide +kernel) (fun v30 hf => ?_)
        obtain rfl := Option.some.inj hf
        exact iw_sub [0, 1, 2, 3, 4] rfl hjq29
      · refine iw_iload_n (i := 1) (pc' := 107) 1 rfl (by decide +kernel) ?_
        refine iw_goto (off := 13) (pc' := 120) (by decide +kernel) ?_
        obtain rfl := Option.some.inj hf
        exact iw_sub [0, 1, 2, 3, 4] rfl hjq29
set_option maxRecDepth 100000 in
set_option maxHeartbeats 4000000 in
theorem lpX9_fewest_27_ok (l : Launch) (κ : ic_K) (sw : Nat) (x1_ : Int32) {Z : State → List Frame → Array Value → State → Prop} {R : Int32 × ic_M} (hk : ic_W l κ MX9_fewest ic_X0 Z 160 [(2, .int R.1)] [] 106 (ic_rs sw) R.2 0 0) : ∀ (fu : Nat) (y2_ : Int32) (y3_ : Int32) (μ : ic_M), lpX9_fewest_27 x1_ fu y2_ y3_ μ = some R → ic_W l κ MX9_fewest ic_X0 Z 27 [(0, ic_rv κ.1 90), (1, .int x1_), (2, .int y2_), (3, .int y3_)] [] 106 (ic_rs sw) μ 0 0 := by
  intro fu
  induction fu with
  | zero =>
    intro y2_ y3_ μ hf
    exact absurd hf (by simp [lpX9_fewest_27])
  | succ fu ih =>
    intro y2_ y3_ μ hf
    rw [lpX9_fewest_27] at hf
    refine iw_iload_n (i := 3) (pc' := 28) 3 rfl (by decide +kernel) ?_
    refine iw_iconst (i := 1) (v := (1 : Int32)) (pc' := 29) (by decide +kernel) ?_
    refine iw_aload_n (i := 0) (pc' := 30) 0 rfl (by decide +kernel) ?_
    refine iw_getr (pc' := 33) (q := 92) ic_fk9 cO_90 rfl lkf_X9_17 (by decide +kernel) ?_
    refine iw_iconst (i := 3) (v := (3 : Int32)) (pc' := 34) (by decide +kernel) ?_
    refine iw_iald (pc' := 35) hf (fun _ => cI_92) (by decide +kernel) (fun v23 hf => ?_)
    refine iw_ishl (pc' := 36) (by decide +kernel) ?_
    refine iw_icmp_ge (off := 124) (tg := 160) (pc' := 39) hf (by decide +kernel) (fun hf => ?_) (fun hf => ?_)
    · obtain rfl := Option.some.inj hf
      exact iw_sub [2] rfl hk
    · refine iw_iload_n (i := 3) (pc' := 40) 3 rfl (by decide +kernel) ?_
      refine iw_aload_n (i := 0) (pc' := 41) 0 rfl (by decide +kernel) ?_
      refine iw_aload_n (i := 0) (pc' := 42) 0 rfl (by decide +kernel) ?_
      refine iw_getr (pc' := 45) (q := 98) ic_fk9 cO_90 rfl lkf_X9_35 (by decide +kernel) ?_
      refine iw_bipush (i := (-2)) (v := (-2 : Int32)) (pc' := 47) (by decide +kernel) ?_
      obtain ⟨v24, hc, hf⟩ := ic_bd hf
      refine iw_callV (pc' := 50) (S0 := [.int y3_]) (S1 := [.int v24, .int y3_]) (c1 := 0) (s1 := 0) (k := 2) (ct_X9_onCell l κ sw μ 98 (-2 : Int32) hc) cO_90 ⟨rfl, rfl⟩ mv_X9_onCell lkm_X9_184 ⟨rfl, rfl⟩ (ic_sum8 ⟨rfl, trivial⟩ (Nat.le_of_ble_eq_true rfl)) (by unfold ic_rm; decide +kernel) ⟨rfl, rfl, rfl⟩ ⟨Nat.le_of_ble_eq_true rfl, Nat.le_of_ble_eq_true rfl⟩ ?_
      refine iw_iand (pc' := 51) (by decide +kernel) ?_
      obtain ⟨q25, hf, hgq25⟩ := ic_bd hf
      have hjq25 : ic_W l κ MX9_fewest ic_X0 Z 154 [(0, ic_rv κ.1 90), (1, .int x1_), (2, .int q25.1), (3, .int y3_)] [] 106 (ic_rs sw) q25.2 0 0 := by
        have hf := hgq25
        refine iw_iinc (i := 3) (d := 1) (pc' := 157) (v := (1 : Int32)) (L1 := fun x50 => [(0, ic_rv κ.1 90), (1, .int x1_), (2, .int q25.1), (3, .int x50)]) hf 3 rfl (fun _ => rfl) (by decide +kernel) (fun x50 hf => ?_)
        refine iw_goto (off := (-130)) (pc' := 27) (by decide +kernel) ?_
        exact iw_sub [0, 1, 2, 3] rfl (ih _ _ _ hf)
      refine iw_if_ne (off := 103) (tg := 154) (pc' := 54) hf (by decide +kernel) (fun hf => ?_) (fun hf => ?_)
      · obtain rfl := Option.some.inj hf
        exact iw_sub [0, 1, 2, 3] rfl hjq25
      · refine iw_iload_n (i := 2) (pc' := 55) 2 rfl (by decide +kernel) ?_
        refine iw_iconst (i := (-1)) (v := (-1 : Int32)) (pc' := 56) (by decide +kernel) ?_
        refine iw_icmp_eq (off := 14) (tg := 70) (pc' := 59) hf (by decide +kernel) (fun hf => ?_) (fun hf => ?_)
        · refine iw_aload_n (i := 0) (pc' := 71) 0 rfl (by decide +kernel) ?_
          obtain ⟨m26, hc, hf⟩ := ic_bd hf
          refine iw_callV (pc' := 74) (S0 := []) (S1 := []) (c1 := 0) (s1 := 0) (k := 0) (ct_X9_tries l κ sw μ hc) cO_90 ⟨rfl, rfl⟩ mv_X9_tries lkm_X9_233 ⟨rfl, rfl⟩ (ic_sum8 trivial (Nat.le_of_ble_eq_true rfl)) (by unfold ic_rm; decide +kernel) ⟨rfl, rfl, rfl⟩ ⟨Nat.le_of_ble_eq_true rfl, Nat.le_of_ble_eq_true rfl⟩ ?_
          refine iw_iconst (i := 0) (v := (0 : Int32)) (pc' := 75) (by decide +kernel) ?_
          refine iw_istore0 (i := 4) (pc' := 77) (L' := [(0, ic_rv κ.1 90), (1, .int x1_), (2, .int y2_), (3, .int y3_), (4, .int (0 : Int32))]) rfl (by decide +kernel) ?_
          obtain ⟨q33, hf, hgq33⟩ := ic_bd hf
          have hjq33 : ic_W l κ MX9_fewest ic_X0 Z 127 [(0, ic_rv κ.1 90), (1, .int x1_), (2, .int y2_), (3, .int y3_)] [] 106 (ic_rs sw) q33 0 0 := by
            have hf := hgq33
            refine iw_aload_n (i := 0) (pc' := 128) 0 rfl (by decide +kernel) ?_
            refine iw_aload_n (i := 0) (pc' := 129) 0 rfl (by decide +kernel) ?_
            refine iw_getr (pc' := 132) (q := 99) ic_fk9 cO_90 rfl lkf_X9_38 (by decide +kernel) ?_
            refine iw_iload_n (i := 1) (pc' := 133) 1 rfl (by decide +kernel) ?_
            obtain ⟨v34, hc, hf⟩ := ic_bd hf
            refine iw_callV (pc' := 136) (S0 := []) (S1 := [.int v34]) (c1 := 0) (s1 := 0) (k := 2) (ct_X9_loadOf l κ sw q33 99 x1_ hc) cO_90 ⟨rfl, rfl⟩ mv_X9_loadOf lkm_X9_136 ⟨rfl, rfl⟩ (ic_sum8 trivial (Nat.le_of_ble_eq_true rfl)) (by unfold ic_rm; decide +kernel) ⟨rfl, rfl, rfl⟩ ⟨Nat.le_of_ble_eq_true rfl, Nat.le_of_ble_eq_true rfl⟩ ?_
            refine iw_aload_n (i := 0) (pc' := 137) 0 rfl (by decide +kernel) ?_
            refine iw_aload_n (i := 0) (pc' := 138) 0 rfl (by decide +kernel) ?_
            refine iw_getr (pc' := 141) (q := 99) ic_fk9 cO_90 rfl lkf_X9_38 (by decide +kernel) ?_
            refine iw_iload_n (i := 1) (pc' := 142) 1 rfl (by decide +kernel) ?_
            obtain ⟨v35, hc, hf⟩ := ic_bd hf
            refine iw_callV (pc' := 145) (S0 := [.int v34]) (S1 := [.int v35, .int v34]) (c1 := 0) (s1 := 0) (k := 2) (ct_X9_bearsOf l κ sw q33 99 x1_ hc) cO_90 ⟨rfl, rfl⟩ mv_X9_bearsOf lkm_X9_140 ⟨rfl, rfl⟩ (ic_sum8 ⟨rfl, trivial⟩ (Nat.le_of_ble_eq_true rfl)) (by unfold ic_rm; decide +kernel) ⟨rfl, rfl, rfl⟩ ⟨Nat.le_of_ble_eq_true rfl, Nat.le_of_ble_eq_true rfl⟩ ?_
            obtain ⟨q36, hf, hgq36⟩ := ic_bd hf
            have hjq36 : ic_W l κ MX9_fewest ic_X0 Z 153 [(0, ic_rv κ.1 90), (1, .int x1_), (3, .int y3_)] [.int q36] 106 (ic_rs sw) q33 0 0 := by
              have hf := hgq36
              refine iw_istore_n0 (i := 2) (pc' := 154) (L' := [(0, ic_rv κ.1 90), (1, .int x1_), (2, .int q36), (3, .int y3_)]) rfl (by decide +kernel) ?_
              obtain rfl := Option.some.inj hf
              exact iw_sub [0, 1, 2, 3] rfl hjq25
            refine iw_icmp_le (off := 7) (tg := 152) (pc' := 148) hf (by decide +kernel) (fun hf => ?_) (fun hf => ?_)
            · refine iw_iload_n (i := 2) (pc' := 153) 2 rfl (by decide +kernel) ?_
              obtain rfl := Option.some.inj hf
              exact iw_sub [0, 1, 3] rfl hjq36
            · refine iw_iload_n (i := 3) (pc' := 149) 3 rfl (by decide +kernel) ?_
              refine iw_goto (off := 4) (pc' := 153) (by decide +kernel) ?_
              obtain rfl := Option.some.inj hf
              exact iw_sub [0, 1, 3] rfl hjq36
          exact iw_sub [0, 1, 2, 3, 4] rfl (lpX9_fewest_77_ok l κ sw x1_ y2_ y3_ hjq33 1000 (0 : Int32) m26 hf)
        · refine iw_iload_n (i := 3) (pc' := 60) 3 rfl (by decide +kernel) ?_
          obtain ⟨v37, hc, hf⟩ := ic_bd hf
          refine iw_callS (pc' := 63) (S0 := []) (S1 := [.int v37]) (c1 := 0) (s1 := 0) (k := 1) (ct_X9_ones l κ sw μ y3_ hc) ms_X9_ones lkm_X9_249 ⟨rfl, rfl⟩ (ic_sum8 trivial (Nat.le_of_ble_eq_true rfl)) (by unfold ic_rm; decide +kernel) ⟨rfl, rfl, rfl⟩ ⟨Nat.le_of_ble_eq_true rfl, Nat.le_of_ble_eq_true rfl⟩ ?_
          refine iw_iload_n (i := 2) (pc' := 64) 2 rfl (by decide +kernel) ?_
          obtain ⟨v38, hc, hf⟩ := ic_bd hf
          refine iw_callS (pc' := 67) (S0 := [.int v37]) (S1 := [.int v38, .int v37]) (c1 := 0) (s1 := 0) (k := 1) (ct_X9_ones l κ sw μ y2_ hc) ms_X9_ones lkm_X9_249 ⟨rfl, rfl⟩ (ic_sum8 ⟨rfl, trivial⟩ (Nat.le_of_ble_eq_true rfl)) (by unfold ic_rm; decide +kernel) ⟨rfl, rfl, rfl⟩ ⟨Nat.le_of_ble_eq_true rfl, Nat.le_of_ble_eq_true rfl⟩ ?_
          refine iw_icmp_ge (off := 87) (tg := 154) (pc' := 70) hf (by decide +kernel) (fun hf => ?_) (fun hf => ?_)
          · obtain rfl := Option.some.inj hf
            exact iw_sub [0, 1, 2, 3] rfl hjq25
          · refine iw_aload_n (i := 0) (pc' := 71) 0 rfl (by decide +kernel) ?_
            obtain ⟨m39, hc, hf⟩ := ic_bd hf
            refine iw_callV (pc' := 74) (S0 := []) (S1 := []) (c1 := 0) (s1 := 0) (k := 0) (ct_X9_tries l κ sw μ hc) cO_90 ⟨rfl, rfl⟩ mv_X9_tries lkm_X9_233 ⟨rfl, rfl⟩ (ic_sum8 trivial (Nat.le_of_ble_eq_true rfl)) (by unfold ic_rm; decide +kernel) ⟨rfl, rfl, rfl⟩ ⟨Nat.le_of_ble_eq_true rfl, Nat.le_of_ble_eq_true rfl⟩ ?_
            refine iw_iconst (i := 0) (v := (0 : Int32)) (pc' := 75) (by decide +kernel) ?_
            refine iw_istore0 (i := 4) (pc' := 77) (L' := [(0, ic_rv κ.1 90), (1, .int x1_), (2, .int y2_), (3, .int y3_), (4, .int (0 : Int32))]) rfl (by decide +kernel) ?_
            obtain ⟨q46, hf, hgq46⟩ := ic_bd hf
            have hjq46 : ic_W l κ MX9_fewest ic_X0 Z 127 [(0, ic_rv κ.1 90), (1, .int x1_), (2, .int y2_), (3, .int y3_)] [] 106 (ic_rs sw) q46 0 0 := by
              have hf := hgq46
              refine iw_aload_n (i := 0) (pc' := 128) 0 rfl (by decide +kernel) ?_
              refine iw_aload_n (i := 0) (pc' := 129) 0 rfl (by decide +kernel) ?_
              refine iw_getr (pc' := 132) (q := 99) ic_fk9 cO_90 rfl lkf_X9_38 (by decide +kernel) ?_
              refine iw_iload_n (i := 1) (pc' := 133) 1 rfl (by decide +kernel) ?_
              obtain ⟨v47, hc, hf⟩ := ic_bd hf
              refine iw_callV (pc' := 136) (S0 := []) (S1 := [.int v47]) (c1 := 0) (s1 := 0) (k := 2) (ct_X9_loadOf l κ sw q46 99 x1_ hc) cO_90 ⟨rfl, rfl⟩ mv_X9_loadOf lkm_X9_136 ⟨rfl, rfl⟩ (ic_sum8 trivial (Nat.le_of_ble_eq_true rfl)) (by unfold ic_rm; decide +kernel) ⟨rfl, rfl, rfl⟩ ⟨Nat.le_of_ble_eq_true rfl, Nat.le_of_ble_eq_true rfl⟩ ?_
              refine iw_aload_n (i := 0) (pc' := 137) 0 rfl (by decide +kernel) ?_
              refine iw_aload_n (i := 0) (pc' := 138) 0 rfl (by decide +kernel) ?_
              refine iw_getr (pc' := 141) (q := 99) ic_fk9 cO_90 rfl lkf_X9_38 (by decide +kernel) ?_
              refine iw_iload_n (i := 1) (pc' := 142) 1 rfl (by decide +kernel) ?_
              obtain ⟨v48, hc, hf⟩ := ic_bd hf
              refine iw_callV (pc' := 145) (S0 := [.int v47]) (S1 := [.int v48, .int v47]) (c1 := 0) (s1 := 0) (k := 2) (ct_X9_bearsOf l κ sw q46 99 x1_ hc) cO_90 ⟨rfl, rfl⟩ mv_X9_bearsOf lkm_X9_140 ⟨rfl, rfl⟩ (ic_sum8 ⟨rfl, trivial⟩ (Nat.le_of_ble_eq_true rfl)) (by unfold ic_rm; decide +kernel) ⟨rfl, rfl, rfl⟩ ⟨Nat.le_of_ble_eq_true rfl, Nat.le_of_ble_eq_true rfl⟩ ?_
              obtain ⟨q49, hf, hgq49⟩ := ic_bd hf
              have hjq49 : ic_W l κ MX9_fewest ic_X0 Z 153 [(0, ic_rv κ.1 90), (1, .int x1_), (3, .int y3_)] [.int q49] 106 (ic_rs sw) q46 0 0 := by
                have hf := hgq49
                refine iw_istore_n0 (i := 2) (pc' := 154) (L' := [(0, ic_rv κ.1 90), (1, .int x1_), (2, .int q49), (3, .int y3_)]) rfl (by decide +kernel) ?_
                obtain rfl := Option.some.inj hf
                exact iw_sub [0, 1, 2, 3] rfl hjq25
              refine iw_icmp_le (off := 7) (tg := 152) (pc' := 148) hf (by decide +kernel) (fun hf => ?_) (fun hf => ?_)
              · refine iw_iload_n (i := 2) (pc' := 153) 2 rfl (by decide +kernel) ?_
                obtain rfl := Option.some.inj hf
                exact iw_sub [0, 1, 3] rfl hjq49
              · refine iw_iload_n (i := 3) (pc' := 149) 3 rfl (by decide +kernel) ?_
                refine iw_goto (off := 4) (pc' := 153) (by decide +kernel) ?_
                obtain rfl := Option.some.inj hf
                exact iw_sub [0, 1, 3] rfl hjq49
            exact iw_sub [0, 1, 2, 3, 4] rfl (lpX9_fewest_77_ok l κ sw x1_ y2_ y3_ hjq46 1000 (0 : Int32) m39 hf)
set_option maxRecDepth 100000 in
set_option maxHeartbeats 4000000 in
theorem ct_X9_fewest (l : Launch) (κ : ic_K) (sw : Nat) (μ : ic_M) (x1 : Int32) {R : Int32 × ic_M} (hf : fX9_fewest μ x1 = some R) : ic_C l κ MX9_fewest [ic_rv κ.1 90, .int x1] 106 (ic_rs sw) μ (some (.int R.1)) 106 (ic_rs sw) R.2 := by
  refine ic_C.of (L := [(0, ic_rv κ.1 90), (1, .int x1)]) ⟨ic_cat _ _, rfl, trivial⟩ ⟨by decide +kernel, Nat.le_of_ble_eq_true rfl⟩ rfl ?_
  unfold fX9_fewest at hf
  refine iw_aload_n (i := 0) (pc' := 1) 0 rfl (by decide +kernel) ?_
  refine iw_iload_n (i := 1) (pc' := 2) 1 rfl (by decide +kernel) ?_
  obtain ⟨v21, hc, hf⟩ := ic_bd hf
  refine iw_callV (pc' := 5) (S0 := []) (S1 := [.int v21]) (c1 := 0) (s1 := 0) (k := 1) (ct_X9_isCell l κ sw μ x1 hc) cO_90 ⟨rfl, rfl⟩ mv_X9_isCell lkm_X9_190 ⟨rfl, rfl⟩ (ic_sum8 trivial (Nat.le_of_ble_eq_true rfl)) (by unfold ic_rm; decide +kernel) ⟨rfl, rfl, rfl⟩ ⟨Nat.le_of_ble_eq_true rfl, Nat.le_of_ble_eq_true rfl⟩ ?_
  refine iw_if_ne (off := 6) (tg := 11) (pc' := 8) hf (by decide +kernel) (fun hf => ?_) (fun hf => ?_)
  · refine iw_aload_n (i := 0) (pc' := 12) 0 rfl (by decide +kernel) ?_
    refine iw_getr (pc' := 15) (q := 98) ic_fk9 cO_90 rfl lkf_X9_35 (by decide +kernel) ?_
    refine iw_iload_n (i := 1) (pc' := 16) 1 rfl (by decide +kernel) ?_
    refine iw_iald (pc' := 17) hf (fun _ => cI_98) (by decide +kernel) (fun v22 hf => ?_)
    refine iw_if_ne (off := 6) (tg := 23) (pc' := 20) hf (by decide +kernel) (fun hf => ?_) (fun hf => ?_)
    · refine iw_iconst (i := (-1)) (v := (-1 : Int32)) (pc' := 24) (by decide +kernel) ?_
      refine iw_istore_n0 (i := 2) (pc' := 25) (L' := [(0, ic_rv κ.1 90), (1, .int x1), (2, .int (-1 : Int32))]) rfl (by decide +kernel) ?_
      refine iw_iconst (i := 0) (v := (0 : Int32)) (pc' := 26) (by decide +kernel) ?_
      refine iw_istore_n0 (i := 3) (pc' := 27) (L' := [(0, ic_rv κ.1 90), (1, .int x1), (2, .int (-1 : Int32)), (3, .int (0 : Int32))]) rfl (by decide +kernel) ?_
      obtain ⟨q51, hf, hgq51⟩ := ic_bd hf
      have hjq51 : ic_W l κ MX9_fewest ic_X0 (ic_Z κ MX9_fewest (some (.int R.1)) 106 (ic_rs sw) R.2) 160 [(2, .int q51.1)] [] 106 (ic_rs sw) q51.2 0 0 := by
        have hf := hgq51
        refine iw_iload_n (i := 2) (pc' := 161) 0 rfl (by decide +kernel) ?_
        exact iw_ireturn (ic_q1 (Option.some.inj hf)) rfl (ic_q2 (Option.some.inj hf)) (by decide +kernel)
      exact iw_sub [0, 1, 2, 3] rfl (lpX9_fewest_27_ok l κ sw x1 hjq51 1000 (-1 : Int32) (0 : Int32) μ hf)
    · refine iw_ldc (pc' := 22) lkc_X9_202 (by decide +kernel) ?_
      exact iw_ireturn (ic_q1 (Option.some.inj hf)) rfl (ic_q2 (Option.some.inj hf)) (by decide +kernel)
  · refine iw_ldc (pc' := 10) lkc_X9_194 (by decide +kernel) ?_
    exact iw_ireturn (ic_q1 (Option.some.inj hf)) rfl (ic_q2 (Option.some.inj hf)) (by decide +kernel)
set_option maxRecDepth 100000 in
set_option maxHeartbeats 4000000 in
theorem lpX9_leastSalt_23_ok (l : Launch) (κ : ic_K) (sw : Nat) (μ : ic_M) (x1_ : Int32) (x2_ : Int32) {Rf : Int32} {R : (Unit) ⊕ (Int32)} (hk : ∀ t, R = .inl t → ic_W l κ MX9_leastSalt ic_X0 (ic_Z κ MX9_leastSalt (some (.int Rf)) 106 (ic_rs sw) μ) 70 [] [] 106 (ic_rs sw) μ 0 0) (hr : ∀ v, R = .inr v → v = Rf) : ∀ (fu : Nat) (y3_ : Int32), lpX9_leastSalt_23 μ x1_ x2_ fu y3_ = some R → ic_W l κ MX9_leastSalt ic_X0 (ic_Z κ MX9_leastSalt (some (.int Rf)) 106 (ic_rs sw) μ) 23 [(0, ic_rv κ.1 90), (1, .int x1_), (2, .int x2_), (3, .int y3_)] [] 106 (ic_rs sw) μ 0 0 := by
  intro fu
  induction fu with
  | zero =>
    intro y3_ hf
    exact absurd hf (by simp [lpX9_leastSalt_23])
  | succ fu ih =>
    intro y3_ hf
    rw [lpX9_leastSalt_23] at hf
    refine iw_iload_n (i := 3) (pc' := 24) 3 rfl (by decide +kernel) ?_
    refine iw_aload_n (i := 0) (pc' := 25) 0 rfl (by decide +kernel) ?_
    refine iw_getr (pc' := 28) (q := 98) ic_fk9 cO_90 rfl lkf_X9_35 (by decide +kernel) ?_
    refine iw_iload_n (i := 1) (pc' := 29) 1 rfl (by decide +kernel) ?_
    refine iw_iald (pc' := 30) hf (fun _ => cI_98) (by decide +kernel) (fun v23 hf => ?_)
    refine iw_icmp_gt (off := 40) (tg := 70) (pc' := 33) hf (by decide +kernel) (fun hf => ?_) (fun hf => ?_)
    · exact iw_sub [] rfl (hk _ (Option.some.inj hf).symm)
    · refine iw_aload_n (i := 0) (pc' := 34) 0 rfl (by decide +kernel) ?_
      refine iw_getr (pc' := 37) (q := 92) ic_fk9 cO_90 rfl lkf_X9_17 (by decide +kernel) ?_
      refine iw_iconst (i := 2) (v := (2 : Int32)) (pc' := 38) (by decide +kernel) ?_
      refine iw_iald (pc' := 39) hf (fun _ => cI_92) (by decide +kernel) (fun v24 hf => ?_)
      refine iw_aload_n (i := 0) (pc' := 40) 0 rfl (by decide +kernel) ?_
      refine iw_getr (pc' := 43) (q := 98) ic_fk9 cO_90 rfl lkf_X9_35 (by decide +kernel) ?_
      refine iw_iload_n (i := 1) (pc' := 44) 1 rfl (by decide +kernel) ?_
      refine iw_iald (pc' := 45) hf (fun _ => cI_98) (by decide +kernel) (fun v25 hf => ?_)
      refine iw_iload_n (i := 3) (pc' := 46) 3 rfl (by decide +kernel) ?_
      refine iw_isub (pc' := 47) (by decide +kernel) ?_
      refine iw_imul (pc' := 48) (by decide +kernel) ?_
      refine iw_iload_n (i := 2) (pc' := 49) 2 rfl (by decide +kernel) ?_
      refine iw_icmp_lt (off := 13) (tg := 62) (pc' := 52) hf (by decide +kernel) (fun hf => ?_) (fun hf => ?_)
      · refine iw_iload_n (i := 3) (pc' := 63) 3 rfl (by decide +kernel) ?_
        exact iw_ireturn (hr _ (Option.some.inj hf).symm) rfl rfl (by decide +kernel)
      · refine iw_iload_n (i := 3) (pc' := 53) 3 rfl (by decide +kernel) ?_
        refine iw_aload_n (i := 0) (pc' := 54) 0 rfl (by decide +kernel) ?_
        refine iw_getr (pc' := 57) (q := 98) ic_fk9 cO_90 rfl lkf_X9_35 (by decide +kernel) ?_
        refine iw_iload_n (i := 1) (pc' := 58) 1 rfl (by decide +kernel) ?_
        refine iw_iald (pc' := 59) hf (fun _ => cI_98) (by decide +kernel) (fun v26 hf => ?_)
        refine iw_icmp_ne (off := 5) (tg := 64) (pc' := 62) hf (by decide +kernel) (fun hf => ?_) (fun hf => ?_)
        · refine iw_iinc (i := 3) (d := 1) (pc' := 67) (v := (1 : Int32)) (L1 := fun x27 => [(0, ic_rv κ.1 90), (1, .int x1_), (2, .int x2_), (3, .int x27)]) hf 3 rfl (fun _ => rfl) (by decide +kernel) (fun x27 hf => ?_)
          refine iw_goto (off := (-44)) (pc' := 23) (by decide +kernel) ?_
          exact iw_sub [0, 1, 2, 3] rfl (ih _ hf)
        · refine iw_iload_n (i := 3) (pc' := 63) 3 rfl (by decide +kernel) ?_
          exact iw_ireturn (hr _ (Option.some.inj hf).symm) rfl rfl (by decide +kernel)
set_option maxRecDepth 100000 in
set_option maxHeartbeats 4000000 in
theorem ct_X9_leastSalt (l : Launch) (κ : ic_K) (sw : Nat) (μ : ic_M) (x1 : Int32) {R : Int32} (hf : fX9_leastSalt μ x1 = some R) : ic_C l κ MX9_leastSalt [ic_rv κ.1 90, .int x1] 106 (ic_rs sw) μ (some (.int R)) 106 (ic_rs sw) μ := by
  refine ic_C.of (L := [(0, ic_rv κ.1 90), (1, .int x1)]) ⟨ic_cat _ _, rfl, trivial⟩ ⟨by decide +kernel, Nat.le_of_ble_eq_true rfl⟩ rfl ?_
  unfold fX9_leastSalt at hf
  refine iw_aload_n (i := 0) (pc' := 1) 0 rfl (by decide +kernel) ?_
  refine iw_iload_n (i := 1) (pc' := 2) 1 rfl (by decide +kernel) ?_
  obtain ⟨v21, hc, hf⟩ := ic_bd hf
  refine iw_callV (pc' := 5) (S0 := []) (S1 := [.int v21]) (c1 := 0) (s1 := 0) (k := 1) (ct_X9_isCell l κ sw μ x1 hc) cO_90 ⟨rfl, rfl⟩ mv_X9_isCell lkm_X9_190 ⟨rfl, rfl⟩ (ic_sum8 trivial (Nat.le_of_ble_eq_true rfl)) (by unfold ic_rm; decide +kernel) ⟨rfl, rfl, rfl⟩ ⟨Nat.le_of_ble_eq_true rfl, Nat.le_of_ble_eq_true rfl⟩ ?_
  refine iw_if_ne (off := 6) (tg := 11) (pc' := 8) hf (by decide +kernel) (fun hf => ?_) (fun hf => ?_)
  · refine iw_aload_n (i := 0) (pc' := 12) 0 rfl (by decide +kernel) ?_
    refine iw_aload_n (i := 0) (pc' := 13) 0 rfl (by decide +kernel) ?_
    refine iw_getr (pc' := 16) (q := 98) ic_fk9 cO_90 rfl lkf_X9_35 (by decide +kernel) ?_
    refine iw_iload_n (i := 1) (pc' := 17) 1 rfl (by decide +kernel) ?_
    obtain ⟨v22, hc, hf⟩ := ic_bd hf
    refine iw_callV (pc' := 20) (S0 := []) (S1 := [.int v22]) (c1 := 0) (s1 := 0) (k := 2) (ct_X9_loadOf l κ sw μ 98 x1 hc) cO_90 ⟨rfl, rfl⟩ mv_X9_loadOf lkm_X9_136 ⟨rfl, rfl⟩ (ic_sum8 trivial (Nat.le_of_ble_eq_true rfl)) (by unfold ic_rm; decide +kernel) ⟨rfl, rfl, rfl⟩ ⟨Nat.le_of_ble_eq_true rfl, Nat.le_of_ble_eq_true rfl⟩ ?_
    refine iw_istore_n0 (i := 2) (pc' := 21) (L' := [(0, ic_rv κ.1 90), (1, .int x1), (2, .int v22)]) rfl (by decide +kernel) ?_
    refine iw_iconst (i := 1) (v := (1 : Int32)) (pc' := 22) (by decide +kernel) ?_
    refine iw_istore_n0 (i := 3) (pc' := 23) (L' := [(0, ic_rv κ.1 90), (1, .int x1), (2, .int v22), (3, .int (1 : Int32))]) rfl (by decide +kernel) ?_
    obtain ⟨q28, hf, hgq28⟩ := ic_bd hf
    refine iw_sub [0, 1, 2, 3] rfl (lpX9_leastSalt_23_ok l κ sw μ x1 v22 (R := q28) (fun t29 e => ?_) (fun v e => ?_) 1000 (1 : Int32) hf)
    · subst e
      simp only [Sum.elim_inl] at hgq28
      have hf := hgq28
      refine iw_iconst (i := (-1)) (v := (-1 : Int32)) (pc' := 71) (by decide +kernel) ?_
      exact iw_ireturn (Option.some.inj hf) rfl rfl (by decide +kernel)
    · subst e
      simp only [Sum.elim_inr] at hgq28
      exact Option.some.inj hgq28
  · refine iw_ldc (pc' := 10) lkc_X9_194 (by decide +kernel) ?_
    exact iw_ireturn (Option.some.inj hf) rfl rfl (by decide +kernel)
set_option maxRecDepth 100000 in
set_option maxHeartbeats 4000000 in
theorem lpX9_lives_45_ok (l : Launch) (κ : ic_K) (sw : Nat) (x1_ : Int32) (x2_ : Int32) {Z : State → List Frame → Array Value → State → Prop} {R : Int32 × ic_M} (hk : ic_W l κ MX9_lives ic_X0 Z 155 [(3, .int R.1)] [] 106 (ic_rs sw) R.2 0 0) : ∀ (fu : Nat) (y3_ : Int32) (y4_ : Int32) (μ : ic_M), lpX9_lives_45 x1_ x2_ fu y3_ y4_ μ = some R → ic_W l κ MX9_lives ic_X0 Z 45 [(0, ic_rv κ.1 90), (1, .int x1_), (2, .int x2_), (3, .int y3_), (4, .int y4_)] [] 106 (ic_rs sw) μ 0 0 := by
  intro fu
  induction fu with
  | zero =>
    intro y3_ y4_ μ hf
    exact absurd hf (by simp [lpX9_lives_45])
  | succ fu ih =>
    intro y3_ y4_ μ hf
    rw [lpX9_lives_45] at hf
    refine iw_iload (i := 4) (pc' := 47) 4 rfl (by decide +kernel) ?_
    refine iw_aload_n (i := 0) (pc' := 48) 0 rfl (by decide +kernel) ?_
    obtain ⟨v24, hc, hf⟩ := ic_bd hf
    refine iw_callV (pc' := 51) (S0 := [.int y4_]) (S1 := [.int v24, .int y4_]) (c1 := 0) (s1 := 0) (k := 0) (ct_X9_cells l κ sw μ hc) cO_90 ⟨rfl, rfl⟩ mv_X9_cells lkm_X9_120 ⟨rfl, rfl⟩ (ic_sum8 ⟨rfl, trivial⟩ (Nat.le_of_ble_eq_true rfl)) (by unfold ic_rm; decide +kernel) ⟨rfl, rfl, rfl⟩ ⟨Nat.le_of_ble_eq_true rfl, Nat.le_of_ble_eq_true rfl⟩ ?_
    refine iw_icmp_ge (off := 104) (tg := 155) (pc' := 54) hf (by decide +kernel) (fun hf => ?_) (fun hf => ?_)
    · obtain rfl := Option.some.inj hf
      exact iw_sub [3] rfl hk
    · refine iw_aload_n (i := 0) (pc' := 55) 0 rfl (by decide +kernel) ?_
      refine iw_aload_n (i := 0) (pc' := 56) 0 rfl (by decide +kernel) ?_
      refine iw_getr (pc' := 59) (q := 98) ic_fk9 cO_90 rfl lkf_X9_35 (by decide +kernel) ?_
      refine iw_iload_n (i := 1) (pc' := 60) 1 rfl (by decide +kernel) ?_
      refine iw_iload (i := 4) (pc' := 62) 4 rfl (by decide +kernel) ?_
      obtain ⟨v25, hc, hf⟩ := ic_bd hf
      refine iw_callV (pc' := 65) (S0 := []) (S1 := [.int v25]) (c1 := 0) (s1 := 0) (k := 3) (ct_X9_canGo l κ sw μ 98 x1_ y4_ hc) cO_90 ⟨rfl, rfl⟩ mv_X9_canGo lkm_X9_212 ⟨rfl, rfl⟩ (ic_sum8 trivial (Nat.le_of_ble_eq_true rfl)) (by unfold ic_rm; decide +kernel) ⟨rfl, rfl, rfl⟩ ⟨Nat.le_of_ble_eq_true rfl, Nat.le_of_ble_eq_true rfl⟩ ?_
      obtain ⟨q26, hf, hgq26⟩ := ic_bd hf
      have hjq26 : ic_W l κ MX9_lives ic_X0 Z 149 [(0, ic_rv κ.1 90), (1, .int x1_), (2, .int x2_), (3, .int q26.1), (4, .int y4_)] [] 106 (ic_rs sw) q26.2 0 0 := by
        have hf := hgq26
        refine iw_iinc (i := 4) (d := 1) (pc' := 152) (v := (1 : Int32)) (L1 := fun x34 => [(0, ic_rv κ.1 90), (1, .int x1_), (2, .int x2_), (3, .int q26.1), (4, .int x34)]) hf 4 rfl (fun _ => rfl) (by decide +kernel) (fun x34 hf => ?_)
        refine iw_goto (off := (-107)) (pc' := 45) (by decide +kernel) ?_
        exact iw_sub [0, 1, 2, 3, 4] rfl (ih _ _ _ hf)
      refine iw_if_eq (off := 84) (tg := 149) (pc' := 68) hf (by decide +kernel) (fun hf => ?_) (fun hf => ?_)
      · obtain rfl := Option.some.inj hf
        exact iw_sub [0, 1, 2, 3, 4] rfl hjq26
      · refine iw_aload_n (i := 0) (pc' := 69) 0 rfl (by decide +kernel) ?_
        obtain ⟨m27, hc, hf⟩ := ic_bd hf
        refine iw_callV (pc' := 72) (S0 := []) (S1 := []) (c1 := 0) (s1 := 0) (k := 0) (ct_X9_tries l κ sw μ hc) cO_90 ⟨rfl, rfl⟩ mv_X9_tries lkm_X9_233 ⟨rfl, rfl⟩ (ic_sum8 trivial (Nat.le_of_ble_eq_true rfl)) (by unfold ic_rm; decide +kernel) ⟨rfl, rfl, rfl⟩ ⟨Nat.le_of_ble_eq_true rfl, Nat.le_of_ble_eq_true rfl⟩ ?_
        refine iw_aload_n (i := 0) (pc' := 73) 0 rfl (by decide +kernel) ?_
        refine iw_aload_n (i := 0) (pc' := 74) 0 rfl (by decide +kernel) ?_
        refine iw_getr (pc' := 77) (q := 99) ic_fk9 cO_90 rfl lkf_X9_38 (by decide +kernel) ?_
        refine iw_iload_n (i := 1) (pc' := 78) 1 rfl (by decide +kernel) ?_
        refine iw_iload (i := 4) (pc' := 80) 4 rfl (by decide +kernel) ?_
        obtain ⟨q28, hc, hf⟩ := ic_bd hf
        refine iw_callV (pc' := 83) (S0 := []) (S1 := [.int q28.1]) (c1 := 0) (s1 := 0) (k := 3) (ct_X9_steps l κ sw m27 99 x1_ y4_ hc) cO_90 ⟨rfl, rfl⟩ mv_X9_steps lkm_X9_216 ⟨rfl, rfl⟩ (ic_sum8 trivial (Nat.le_of_ble_eq_true rfl)) (by unfold ic_rm; decide +kernel) ⟨rfl, rfl, rfl⟩ ⟨Nat.le_of_ble_eq_true rfl, Nat.le_of_ble_eq_true rfl⟩ ?_
        obtain ⟨q29, hf, hgq29⟩ := ic_bd hf
        have hjq29 : ic_W l κ MX9_lives ic_X0 Z 91 [(0, ic_rv κ.1 90), (1, .int x1_), (2, .int x2_), (3, .int y3_), (4, .int y4_)] [.int q29] 106 (ic_rs sw) q28.2 0 0 := by
          have hf := hgq29
          refine iw_istore0 (i := 5) (pc' := 93) (L' := [(0, ic_rv κ.1 90), (1, .int x1_), (2, .int x2_), (3, .int y3_), (4, .int y4_), (5, .int q29)]) rfl (by decide +kernel) ?_
          refine iw_aload_n (i := 0) (pc' := 94) 0 rfl (by decide +kernel) ?_
          refine iw_getr (pc' := 97) (q := 99) ic_fk9 cO_90 rfl lkf_X9_38 (by decide +kernel) ?_
          refine iw_bipush (i := 18) (v := (18 : Int32)) (pc' := 99) (by decide +kernel) ?_
          refine iw_iload_n (i := 1) (pc' := 100) 1 rfl (by decide +kernel) ?_
          refine iw_iadd (pc' := 101) (by decide +kernel) ?_
          refine iw_iald (pc' := 102) hf (fun _ => cI_99) (by decide +kernel) (fun v30 hf => ?_)
          refine iw_bipush (i := (-2)) (v := (-2 : Int32)) (pc' := 104) (by decide +kernel) ?_
          obtain ⟨q31, hf, hgq31⟩ := ic_bd hf
          have hjq31 : ic_W l κ MX9_lives ic_X0 Z 112 [(0, ic_rv κ.1 90), (1, .int x1_), (2, .int x2_), (3, .int y3_), (4, .int y4_), (5, .int q29)] [.int q31] 106 (ic_rs sw) q28.2 0 0 := by
            have hf := hgq31
            refine iw_istore0 (i := 6) (pc' := 114) (L' := [(0, ic_rv κ.1 90), (1, .int x1_), (2, .int x2_), (3, .int y3_), (4, .int y4_), (5, .int q29), (6, .int q31)]) rfl (by decide +kernel) ?_
            refine iw_iload_n (i := 3) (pc' := 115) 3 rfl (by decide +kernel) ?_
            refine iw_iload_n (i := 2) (pc' := 116) 2 rfl (by decide +kernel) ?_
            obtain ⟨q32, hf, hgq32⟩ := ic_bd hf
            have hjq32 : ic_W l κ MX9_lives ic_X0 Z 147 [(0, ic_rv κ.1 90), (1, .int x1_), (2, .int x2_), (4, .int y4_)] [.int q32, .int y3_] 106 (ic_rs sw) q28.2 0 0 := by
              have hf := hgq32
              refine iw_ior (pc' := 148) (by decide +kernel) ?_
              refine iw_istore_n (i := 3) (pc' := 149) (L1 := fun x33 => [(0, ic_rv κ.1 90), (1, .int x1_), (2, .int x2_), (3, .int x33), (4, .int y4_)]) hf (fun _ => rfl) (by decide +kernel) (fun x33 hf => ?_)
              obtain rfl := Option.some.inj hf
              exact iw_sub [0, 1, 2, 3, 4] rfl hjq26
            refine iw_if_ne (off := 13) (tg := 129) (pc' := 119) hf (by decide +kernel) (fun hf => ?_) (fun hf => ?_)
            · refine iw_iload_n (i := 2) (pc' := 130) 2 rfl (by decide +kernel) ?_
              refine iw_iconst (i := 1) (v := (1 : Int32)) (pc' := 131) (by decide +kernel) ?_
              refine iw_icmp_ne (off := 15) (tg := 146) (pc' := 134) hf (by decide +kernel) (fun hf => ?_) (fun hf => ?_)
              · refine iw_iconst (i := 0) (v := (0 : Int32)) (pc' := 147) (by decide +kernel) ?_
                obtain rfl := Option.some.inj hf
                exact iw_sub [0, 1, 2, 4] rfl hjq32
              · refine iw_iload (i := 6) (pc' := 136) 6 rfl (by decide +kernel) ?_
                refine iw_if_eq (off := 10) (tg := 146) (pc' := 139) hf (by decide +kernel) (fun hf => ?_) (fun hf => ?_)
                · refine iw_iconst (i := 0) (v := (0 : Int32)) (pc' := 147) (by decide +kernel) ?_
                  obtain rfl := Option.some.inj hf
                  exact iw_sub [0, 1, 2, 4] rfl hjq32
                · refine iw_iconst (i := 1) (v := (1 : Int32)) (pc' := 140) (by decide +kernel) ?_
                  refine iw_iload (i := 4) (pc' := 142) 4 rfl (by decide +kernel) ?_
                  refine iw_ishl (pc' := 143) (by decide +kernel) ?_
                  refine iw_goto (off := 4) (pc' := 147) (by decide +kernel) ?_
                  obtain rfl := Option.some.inj hf
                  exact iw_sub [0, 1, 2, 4] rfl hjq32
            · refine iw_iload (i := 5) (pc' := 121) 5 rfl (by decide +kernel) ?_
              refine iw_if_eq (off := 8) (tg := 129) (pc' := 124) hf (by decide +kernel) (fun hf => ?_) (fun hf => ?_)
              · refine iw_iload_n (i := 2) (pc' := 130) 2 rfl (by decide +kernel) ?_
                refine iw_iconst (i := 1) (v := (1 : Int32)) (pc' := 131) (by decide +kernel) ?_
                refine iw_icmp_ne (off := 15) (tg := 146) (pc' := 134) hf (by decide +kernel) (fun hf => ?_) (fun hf => ?_)
                · refine iw_iconst (i := 0) (v := (0 : Int32)) (pc' := 147) (by decide +kernel) ?_
                  obtain rfl := Option.some.inj hf
                  exact iw_sub [0, 1, 2, 4] rfl hjq32
                · refine iw_iload (i := 6) (pc' := 136) 6 rfl (by decide +kernel) ?_
                  refine iw_if_eq (off := 10) (tg := 146) (pc' := 139) hf (by decide +kernel) (fun hf => ?_) (fun hf => ?_)
                  · refine iw_iconst (i := 0) (v := (0 : Int32)) (pc' := 147) (by decide +kernel) ?_
                    obtain rfl := Option.some.inj hf
                    exact iw_sub [0, 1, 2, 4] rfl hjq32
                  · refine iw_iconst (i := 1) (v := (1 : Int32)) (pc' := 140) (by decide +kernel) ?_
                    refine iw_iload (i := 4) (pc' := 142) 4 rfl (by decide +kernel) ?_
                    refine iw_ishl (pc' := 143) (by decide +kernel) ?_
                    refine iw_goto (off := 4) (pc' := 147) (by decide +kernel) ?_
                    obtain rfl := Option.some.inj hf
                    exact iw_sub [0, 1, 2, 4] rfl hjq32
              · refine iw_iload (i := 6) (pc' := 126) 6 rfl (by decide +kernel) ?_
                refine iw_if_eq (off := 13) (tg := 139) (pc' := 129) hf (by decide +kernel) (fun hf => ?_) (fun hf => ?_)
                · refine iw_iconst (i := 1) (v := (1 : Int32)) (pc' := 140) (by decide +kernel) ?_
                  refine iw_iload (i := 4) (pc' := 142) 4 rfl (by decide +kernel) ?_
                  refine iw_ishl (pc' := 143) (by decide +kernel) ?_
                  refine iw_goto (off := 4) (pc' := 147) (by decide +kernel) ?_
                  obtain rfl := Option.some.inj hf
                  exact iw_sub [0, 1, 2, 4] rfl hjq32
                · refine iw_iload_n (i := 2) (pc' := 130) 2 rfl (by decide +kernel) ?_
                  refine iw_iconst (i := 1) (v := (1 : Int32)) (pc' := 131) (by decide +kernel) ?_
                  refine iw_icmp_ne (off := 15) (tg := 146) (pc' := 134) hf (by decide +kernel) (fun hf => ?_) (fun hf => ?_)
                  · refine iw_iconst (i := 0) (v := (0 : Int32)) (pc' := 147) (by decide +kernel) ?_
                    obtain rfl := Option.some.inj hf
                    exact iw_sub [0, 1, 2, 4] rfl hjq32
                  · refine iw_iload (i := 6) (pc' := 136) 6 rfl (by decide +kernel) ?_
                    refine iw_if_eq (off := 10) (tg := 146) (pc' := 139) hf (by decide +kernel) (fun hf => ?_) (fun hf => ?_)
                    · refine iw_iconst (i := 0) (v := (0 : Int32)) (pc' := 147) (by decide +kernel) ?_
                      obtain rfl := Option.some.inj hf
                      exact iw_sub [0, 1, 2, 4] rfl hjq32
                    · refine iw_iconst (i := 1) (v := (1 : Int32)) (pc' := 140) (by decide +kernel) ?_
                      refine iw_iload (i := 4) (pc' := 142) 4 rfl (by decide +kernel) ?_
                      refine iw_ishl (pc' := 143) (by decide +kernel) ?_
                      refine iw_goto (off := 4) (pc' := 147) (by decide +kernel) ?_
                      obtain rfl := Option.some.inj hf
                      exact iw_sub [0, 1, 2, 4] rfl hjq32
          refine iw_icmp_ne (off := 7) (tg := 111) (pc' := 107) hf (by decide +kernel) (fun hf => ?_) (fun hf => ?_)
          · refine iw_iconst (i := 0) (v := (0 : Int32)) (pc' := 112) (by decide +kernel) ?_
            obtain rfl := Option.some.inj hf
            exact iw_sub [0, 1, 2, 3, 4, 5] rfl hjq31
          · refine iw_iconst (i := 1) (v := (1 : Int32)) (pc' := 108) (by decide +kernel) ?_
            refine iw_goto (off := 4) (pc' := 112) (by decide +kernel) ?_
            obtain rfl := Option.some.inj hf
            exact iw_sub [0, 1, 2, 3, 4, 5] rfl hjq31
        refine iw_if_le (off := 7) (tg := 90) (pc' := 86) hf (by decide +kernel) (fun hf => ?_) (fun hf => ?_)
        · refine iw_iconst (i := 0) (v := (0 : Int32)) (pc' := 91) (by decide +kernel) ?_
          obtain rfl := Option.some.inj hf
          exact iw_sub [0, 1, 2, 3, 4] rfl hjq29
        · refine iw_iconst (i := 1) (v := (1 : Int32)) (pc' := 87) (by decide +kernel) ?_
          refine iw_goto (off := 4) (pc' := 91) (by decide +kernel) ?_
          obtain rfl := Option.some.inj hf
          exact iw_sub [0, 1, 2, 3, 4] rfl hjq29
set_option maxRecDepth 100000 in
set_option maxHeartbeats 4000000 in
theorem ct_X9_lives (l : Launch) (κ : ic_K) (sw : Nat) (μ : ic_M) (x1 : Int32) (x2 : Int32) {R : Int32 × ic_M} (hf : fX9_lives μ x1 x2 = some R) : ic_C l κ MX9_lives [ic_rv κ.1 90, .int x1, .int x2] 106 (ic_rs sw) μ (some (.int R.1)) 106 (ic_rs sw) R.2 := by
  refine ic_C.of (L := [(0, ic_rv κ.1 90), (1, .int x1), (2, .int x2)]) ⟨ic_cat _ _, rfl, rfl, trivial⟩ ⟨by decide +kernel, Nat.le_of_ble_eq_true rfl⟩ rfl ?_
  unfold fX9_lives at hf
  refine iw_aload_n (i := 0) (pc' := 1) 0 rfl (by decide +kernel) ?_
  refine iw_iload_n (i := 1) (pc' := 2) 1 rfl (by decide +kernel) ?_
  obtain ⟨v21, hc, hf⟩ := ic_bd hf
  refine iw_callV (pc' := 5) (S0 := []) (S1 := [.int v21]) (c1 := 0) (s1 := 0) (k := 1) (ct_X9_isPerson l κ sw μ x1 hc) cO_90 ⟨rfl, rfl⟩ mv_X9_isPerson lkm_X9_195 ⟨rfl, rfl⟩ (ic_sum8 trivial (Nat.le_of_ble_eq_true rfl)) (by unfold ic_rm; decide +kernel) ⟨rfl, rfl, rfl⟩ ⟨Nat.le_of_ble_eq_true rfl, Nat.le_of_ble_eq_true rfl⟩ ?_
  refine iw_if_ne (off := 6) (tg := 11) (pc' := 8) hf (by decide +kernel) (fun hf => ?_) (fun hf => ?_)
  · refine iw_iload_n (i := 2) (pc' := 12) 2 rfl (by decide +kernel) ?_
    refine iw_iconst (i := 0) (v := (0 : Int32)) (pc' := 13) (by decide +kernel) ?_
    refine iw_iconst (i := 1) (v := (1 : Int32)) (pc' := 14) (by decide +kernel) ?_
    obtain ⟨v22, hc, hf⟩ := ic_bd hf
    refine iw_callS (pc' := 17) (S0 := []) (S1 := [.int v22]) (c1 := 0) (s1 := 0) (k := 3) (ct_X9_in l κ sw μ x2 (0 : Int32) (1 : Int32) hc) ms_X9_in lkm_X9_63 ⟨rfl, rfl⟩ (ic_sum8 trivial (Nat.le_of_ble_eq_true rfl)) (by unfold ic_rm; decide +kernel) ⟨rfl, rfl, rfl⟩ ⟨Nat.le_of_ble_eq_true rfl, Nat.le_of_ble_eq_true rfl⟩ ?_
    refine iw_if_ne (off := 6) (tg := 23) (pc' := 20) hf (by decide +kernel) (fun hf => ?_) (fun hf => ?_)
    · refine iw_aload_n (i := 0) (pc' := 24) 0 rfl (by decide +kernel) ?_
      refine iw_getr (pc' := 27) (q := 98) ic_fk9 cO_90 rfl lkf_X9_35 (by decide +kernel) ?_
      refine iw_bipush (i := 18) (v := (18 : Int32)) (pc' := 29) (by decide +kernel) ?_
      refine iw_iload_n (i := 1) (pc' := 30) 1 rfl (by decide +kernel) ?_
      refine iw_iadd (pc' := 31) (by decide +kernel) ?_
      refine iw_iald (pc' := 32) hf (fun _ => cI_98) (by decide +kernel) (fun v23 hf => ?_)
      refine iw_bipush (i := (-2)) (v := (-2 : Int32)) (pc' := 34) (by decide +kernel) ?_
      refine iw_icmp_ne (off := 6) (tg := 40) (pc' := 37) hf (by decide +kernel) (fun hf => ?_) (fun hf => ?_)
      · refine iw_iconst (i := 0) (v := (0 : Int32)) (pc' := 41) (by decide +kernel) ?_
        refine iw_istore_n0 (i := 3) (pc' := 42) (L' := [(0, ic_rv κ.1 90), (1, .int x1), (2, .int x2), (3, .int (0 : Int32))]) rfl (by decide +kernel) ?_
        refine iw_iconst (i := 0) (v := (0 : Int32)) (pc' := 43) (by decide +kernel) ?_
        refine iw_istore0 (i := 4) (pc' := 45) (L' := [(0, ic_rv κ.1 90), (1, .int x1), (2, .int x2), (3, .int (0 : Int32)), (4, .int (0 : Int32))]) rfl (by decide +kernel) ?_
        obtain ⟨q35, hf, hgq35⟩ := ic_bd hf
        have hjq35 : ic_W l κ MX9_lives ic_X0 (ic_Z κ MX9_lives (some (.int R.1)) 106 (ic_rs sw) R.2) 155 [(3, .int q35.1)] [] 106 (ic_rs sw) q35.2 0 0 := by
          have hf := hgq35
          refine iw_iload_n (i := 3) (pc' := 156) 0 rfl (by decide +kernel) ?_
          exact iw_ireturn (ic_q1 (Option.some.inj hf)) rfl (ic_q2 (Option.some.inj hf)) (by decide +kernel)
        exact iw_sub [0, 1, 2, 3, 4] rfl (lpX9_lives_45_ok l κ sw x1 x2 hjq35 1000 (0 : Int32) (0 : Int32) μ hf)
      · refine iw_ldc (pc' := 39) lkc_X9_202 (by decide +kernel) ?_
        exact iw_ireturn (ic_q1 (Option.some.inj hf)) rfl (ic_q2 (Option.some.inj hf)) (by decide +kernel)
    · refine iw_ldc (pc' := 22) lkc_X9_67 (by decide +kernel) ?_
      exact iw_ireturn (ic_q1 (Option.some.inj hf)) rfl (ic_q2 (Option.some.inj hf)) (by decide +kernel)
  · refine iw_ldc (pc' := 10) lkc_X9_194 (by decide +kernel) ?_
    exact iw_ireturn (ic_q1 (Option.some.inj hf)) rfl (ic_q2 (Option.some.inj hf)) (by decide +kernel)
