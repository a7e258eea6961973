def MX9_heard : ic_Md := (yX9_heard, cX9_heard, 7, (some .int), { frames := 3, cells := 0, slots := 0, locals := 73 })
theorem mv_X9_heard : ic_MV MX9_heard := ⟨ic_in 1238 (by decide +kernel), ic_in 1239 (by decide +kernel), ic_in 79 (by decide +kernel), ic_in 1240 (by decide +kernel), by decide +kernel, by decide +kernel⟩
def MX9_lesser : ic_Md := (yX9_lesser, cX9_lesser, 2, (some .int), { frames := 0, cells := 0, slots := 0, locals := 0 })
theorem ms_X9_lesser : ic_MS MX9_lesser := ⟨ic_in 1246 (by decide +kernel), ic_in 79 (by decide +kernel), ic_in 1247 (by decide +kernel), by decide +kernel, by decide +kernel⟩
def MX9_greater : ic_Md := (yX9_greater, cX9_greater, 2, (some .int), { frames := 0, cells := 0, slots := 0, locals := 0 })
theorem ms_X9_greater : ic_MS MX9_greater := ⟨ic_in 1249 (by decide +kernel), ic_in 79 (by decide +kernel), ic_in 1250 (by decide +kernel), by decide +kernel, by decide +kernel⟩
def MX9_game : ic_Md := (yX9_game, cX9_game, 9, (some .int), { frames := 1, cells := 0, slots := 0, locals := 22 })
theorem mv_X9_game : ic_MV MX9_game := ⟨ic_in 1242 (by decide +kernel), ic_in 1243 (by decide +kernel), ic_in 79 (by decide +kernel), ic_in 1244 (by decide +kernel), by decide +kernel, by decide +kernel⟩
def MX9_tolls : ic_Md := (yX9_tolls, cX9_tolls, 7, (some .int), { frames := 1, cells := 0, slots := 0, locals := 22 })
theorem mv_X9_tolls : ic_MV MX9_tolls := ⟨ic_in 1253 (by decide +kernel), ic_in 1254 (by decide +kernel), ic_in 79 (by decide +kernel), ic_in 1255 (by decide +kernel), by decide +kernel, by decide +kernel⟩
def MX9_thaw : ic_Md := (yX9_thaw, cX9_thaw, 5, (some .int), { frames := 1, cells := 0, slots := 0, locals := 22 })
theorem mv_X9_thaw : ic_MV MX9_thaw := ⟨ic_in 1257 (by decide +kernel), ic_in 1258 (by decide +kernel), ic_in 79 (by decide +kernel), ic_in 1259 (by decide +kernel), by decide +kernel, by decide +kernel⟩
def MX9_see : ic_Md := (yX9_see, cX9_see, 3, (some .int), { frames := 1, cells := 0, slots := 0, locals := 22 })
theorem mv_X9_see : ic_MV MX9_see := ⟨ic_in 1261 (by decide +kernel), ic_in 1262 (by decide +kernel), ic_in 79 (by decide +kernel), ic_in 1263 (by decide +kernel), by decide +kernel, by decide +kernel⟩
def MX9_brokeBy : ic_Md := (yX9_brokeBy, cX9_brokeBy, 5, (some .int), { frames := 1, cells := 0, slots := 0, locals := 21 })
theorem mv_X9_brokeBy : ic_MV MX9_brokeBy := ⟨ic_in 1274 (by decide +kernel), ic_in 68 (by decide +kernel), ic_in 79 (by decide +kernel), ic_in 1275 (by decide +kernel), by decide +kernel, by decide +kernel⟩
def MX9_isSo : ic_Md := (yX9_isSo, cX9_isSo, 4, (some .boolean), { frames := 2, cells := 0, slots := 0, locals := 45 })
theorem mv_X9_isSo : ic_MV MX9_isSo := ⟨ic_in 1270 (by decide +kernel), ic_in 67 (by decide +kernel), ic_in 79 (by decide +kernel), ic_in 1271 (by decide +kernel), by decide +kernel, by decide +kernel⟩
def MX9_who : ic_Md := (yX9_who, cX9_who, 6, (some .int), { frames := 3, cells := 0, slots := 0, locals := 68 })
theorem mv_X9_who : ic_MV MX9_who := ⟨ic_in 1265 (by decide +kernel), ic_in 1266 (by decide +kernel), ic_in 79 (by decide +kernel), ic_in 1267 (by decide +kernel), by decide +kernel, by decide +kernel⟩
def MX9_ask : ic_Md := (yX9_ask, cX9_ask, 7, (some .int), { frames := 4, cells := 0, slots := 0, locals := 93 })
theorem mv_X9_ask : ic_MV MX9_ask := ⟨ic_in 1277 (by decide +kernel), ic_in 1278 (by decide +kernel), ic_in 79 (by decide +kernel), ic_in 1279 (by decide +kernel), by decide +kernel, by decide +kernel⟩
def MX9_write : ic_Md := (yX9_write, cX9_write, 3, (some .int), { frames := 2, cells := 0, slots := 0, locals := 43 })
theorem mv_X9_write : ic_MV MX9_write := ⟨ic_in 1282 (by decide +kernel), ic_in 1283 (by decide +kernel), ic_in 79 (by decide +kernel), ic_in 1284 (by decide +kernel), by decide +kernel, by decide +kernel⟩
def MX9_tear : ic_Md := (yX9_tear, cX9_tear, 2, (some .int), { frames := 0, cells := 0, slots := 0, locals := 0 })
theorem mv_X9_tear : ic_MV MX9_tear := ⟨ic_in 1286 (by decide +kernel), ic_in 1287 (by decide +kernel), ic_in 79 (by decide +kernel), ic_in 1288 (by decide +kernel), by decide +kernel, by decide +kernel⟩
def MX9_judge : ic_Md := (yX9_judge, cX9_judge, 2, (some .int), { frames := 0, cells := 0, slots := 0, locals := 0 })
theorem mv_X9_judge : ic_MV MX9_judge := ⟨ic_in 1290 (by decide +kernel), ic_in 1291 (by decide +kernel), ic_in 79 (by decide +kernel), ic_in 1292 (by decide +kernel), by decide +kernel, by decide +kernel⟩
theorem lkc_X9_258 : Cond.constant RX9 258 (1000000 : Int32) ∈ ic_tb := ic_in 1251 (by decide +kernel)
theorem lkm_X9_255 : Cond.methodLink RX9 255 yX9_greater ∈ ic_tb := ic_in 1248 (by decide +kernel)
theorem lkm_X9_252 : Cond.methodLink RX9 252 yX9_lesser ∈ ic_tb := ic_in 1245 (by decide +kernel)
theorem lkf_X9_54 : Cond.fieldLink RX9 54 RX9 (TX9 17).2.1 (TX9 17).2.2.1 ∈ ic_tb := ic_in 910 (by decide +kernel)
theorem lkm_X9_259 : Cond.methodLink RX9 259 yX9_brokeBy ∈ ic_tb := ic_in 1272 (by decide +kernel)
theorem lkm_X9_262 : Cond.methodLink RX9 262 yX9_isSo ∈ ic_tb := ic_in 1268 (by decide +kernel)
theorem lkm_X9_265 : Cond.methodLink RX9 265 yX9_who ∈ ic_tb := ic_in 1280 (by decide +kernel)
theorem lkf_X9_57 : Cond.fieldLink RX9 57 RX9 (TX9 19).2.1 (TX9 19).2.2.1 ∈ ic_tb := ic_in 912 (by decide +kernel)
def lpX9_heard_78 (μ : ic_M) (x2_ : Int32) (x3_ : Int32) (x5_ : Int32) : Nat → Int32 → Int32 → Option (Int32)
  | 0, _, _ => none
  | fu + 1, y4_, y6_ => Option.bind (fX9_cells μ) (fun v26 => (if v26 ≤ y6_ then some y4_ else Option.bind (fX9_has μ x2_ x5_) (fun v27 => Option.bind (if v27 = 0 then some (0 : Int32) else ic_ag μ 98 28 y6_ (fun v29 => (if v29 ≤ 0 then some (0 : Int32) else Option.bind (fX9_areNext μ x5_ y6_) (fun v30 => (if v30 = 0 then some (0 : Int32) else some ((1 : Int32) <<< (y6_ &&& 31))))))) (fun q28 => ic_lt ((y4_ ||| q28)) (fun x31 => ic_lt (y6_ + (1 : Int32)) (fun x32 => lpX9_heard_78 μ x2_ x3_ x5_ fu x31 x32))))))
def lpX9_heard_41 (μ : ic_M) (x2_ : Int32) (x3_ : Int32) : Nat → Int32 → Int32 → Option ((Int32) ⊕ (Int32))
  | 0, _, _ => none
  | fu + 1, y4_, y5_ => Option.bind (fX9_cells μ) (fun v24 => (if v24 ≤ y5_ then some (.inl y4_) else Option.bind (fX9_has μ x2_ y5_) (fun v25 => (if v25 = 0 then Option.bind (lpX9_heard_78 μ x2_ x3_ y5_ 1000 y4_ (0 : Int32)) (fun q33 => ic_lt (y5_ + (1 : Int32)) (fun x34 => lpX9_heard_41 μ x2_ x3_ fu q33 x34)) else Option.bind (fX9_cracks μ 98 y5_) (fun v35 => (if v35 = 0 then Option.bind (lpX9_heard_78 μ x2_ x3_ y5_ 1000 y4_ (0 : Int32)) (fun q43 => ic_lt (y5_ + (1 : Int32)) (fun x44 => lpX9_heard_41 μ x2_ x3_ fu q43 x44)) else some (.inr y5_)))))))
def lpX9_heard_30 (μ : ic_M) : Nat → Int32 → Int32 → Option ((Unit) ⊕ (Int32))
  | 0, _, _ => none
  | fu + 1, y2_, y3_ => (if (4 : Int32) ≤ y3_ then some (.inl ()) else Option.bind (lpX9_heard_41 μ y2_ y3_ 1000 y2_ (0 : Int32)) (fun q45 => Sum.elim (fun t46 => ic_lt (y3_ + (1 : Int32)) (fun x47 => lpX9_heard_30 μ fu t46 x47)) (fun v => some (.inr v)) q45))
def fX9_heard (μ : ic_M) (x1 : Int32) : Option (Int32) := Option.bind (fX9_isCell μ x1) (fun v21 => (if v21 = 0 then some (-1000000001 : Int32) else ic_ag μ 98 28 x1 (fun v22 => Option.bind (if v22 ≤ 0 then some (0 : Int32) else some ((1 : Int32) <<< (x1 &&& 31))) (fun q23 => Option.bind (lpX9_heard_30 μ 1000 q23 (0 : Int32)) (fun q48 => Sum.elim (fun t49 => some (-1 : Int32)) some q48)))))
def fX9_lesser (μ : ic_M) (x0 : Int32) (x1 : Int32) : Option (Int32) := Option.bind (if x1 ≤ x0 then some x1 else some x0) (fun q21 => some q21)
def fX9_greater (μ : ic_M) (x0 : Int32) (x1 : Int32) : Option (Int32) := Option.bind (if x0 ≤ x1 then some x1 else some x0) (fun q21 => some q21)
def fX9_game (μ : ic_M) (x1 : Int32) (x2 : Int32) (x3 : Int32) (x4 : Int32) (x5 : Int32) : Option (Int32) := Option.bind (fX9_in μ x1 (0 : Int32) (99 : Int32)) (fun v21 => (if v21 = 0 then some (-1000000002 : Int32) else Option.bind (fX9_in μ x2 (0 : Int32) (99 : Int32)) (fun v22 => (if v22 = 0 then some (-1000000002 : Int32) else Option.bind (fX9_in μ x3 (0 : Int32) (99 : Int32)) (fun v23 => (if v23 = 0 then some (-1000000002 : Int32) else Option.bind (fX9_in μ x4 (0 : Int32) (99 : Int32)) (fun v24 => (if v24 = 0 then some (-1000000002 : Int32) else Option.bind (fX9_in μ x5 (0 : Int32) (1 : Int32)) (fun v25 => (if v25 = 0 then some (-1000000002 : Int32) else Option.bind (fX9_lesser μ x1 x2) (fun v26 => Option.bind (fX9_lesser μ x3 x4) (fun v27 => Option.bind (fX9_greater μ v26 v27) (fun v28 => Option.bind (fX9_greater μ x1 x3) (fun v29 => Option.bind (fX9_greater μ x2 x4) (fun v30 => Option.bind (fX9_lesser μ v29 v30) (fun v31 => (if v28 = v31 then Option.bind (if x5 = (1 : Int32) then Option.bind (fX9_greater μ v26 v27) (fun v35 => some ((1000 : Int32) * v35)) else (if v26 < v27 then some (0 : Int32) else some (1000000 : Int32))) (fun q34 => some q34) else ic_lt ((((x1 + x4) - x2) - x3)) (fun x32 => Option.bind (if x5 = 0 then (if x32 = 0 then none else some (((x4 - x3) * (1000000 : Int32)) / x32)) else (if x32 = 0 then none else some ((((x1 * x4) - (x2 * x3)) * (1000 : Int32)) / x32))) (fun q33 => some q33)))))))))))))))))))
def lpX9_tolls_45 (μ : ic_M) (x1_ : Int32) (x2_ : Int32) (x3_ : Int32) (x4_ : Int32) : Nat → Int32 → Int32 → Option (Int32)
  | 0, _, _ => none
  | fu + 1, y5_, y6_ => ic_ag μ 92 7 (0 : Int32) (fun v24 => (if v24 ≤ y6_ then some y5_ else Option.bind (if y5_ = 0 then some (0 : Int32) else ic_ag μ 92 7 (0 : Int32) (fun v26 => ic_ag μ 98 28 ((x4_ * v26) + y6_) (fun v27 => (if v27 = 0 then some (1 : Int32) else some (0 : Int32))))) (fun q25 => ic_lt (y6_ + (1 : Int32)) (fun x28 => lpX9_tolls_45 μ x1_ x2_ x3_ x4_ fu q25 x28))))
def lpX9_tolls_28 (μ : ic_M) (x1_ : Int32) (x2_ : Int32) : Nat → Int32 → Int32 → Option (Int32)
  | 0, _, _ => none
  | fu + 1, y3_, y4_ => ic_ag μ 92 7 (1 : Int32) (fun v23 => (if v23 ≤ y4_ then some y3_ else Option.bind (lpX9_tolls_45 μ x1_ x2_ y3_ y4_ 1000 (1 : Int32) (0 : Int32)) (fun q29 => Option.bind (if q29 = 0 then some (0 : Int32) else some (1 : Int32)) (fun q30 => ic_lt ((y3_ + q30)) (fun x31 => ic_lt (y4_ + (1 : Int32)) (fun x32 => lpX9_tolls_28 μ x1_ x2_ fu x31 x32))))))
def fX9_tolls (μ : ic_M) (x1 : Int32) (x2 : Int32) : Option (Int32) := Option.bind (fX9_in μ x1 (0 : Int32) (99 : Int32)) (fun v21 => (if v21 = 0 then some (-1000000002 : Int32) else Option.bind (fX9_in μ x2 (0 : Int32) (99 : Int32)) (fun v22 => (if v22 = 0 then some (-1000000002 : Int32) else Option.bind (lpX9_tolls_28 μ x1 x2 1000 (0 : Int32) (0 : Int32)) (fun q33 => ic_ag μ 98 28 (25 : Int32) (fun v34 => Option.bind (if v34 = (-1 : Int32) then some (0 : Int32) else some ((x1 * x2) * q33)) (fun q35 => some q35)))))))
def lpX9_thaw_30 (μ : ic_M) (x1_ : Int32) (x2_ : Int32) : Nat → Int32 → Int32 → Option (Int32)
  | 0, _, _ => none
  | fu + 1, y3_, y4_ => (if x1_ ≤ y4_ then some y3_ else (if (100 : Int32) = 0 then none else ic_lt (((y3_ * ((100 : Int32) - x2_)) / (100 : Int32))) (fun x23 => ic_lt (y4_ + (1 : Int32)) (fun x24 => lpX9_thaw_30 μ x1_ x2_ fu x23 x24))))
def fX9_thaw (μ : ic_M) (x1 : Int32) (x2 : Int32) : Option (Int32) := Option.bind (fX9_in μ x1 (0 : Int32) (60 : Int32)) (fun v21 => (if v21 = 0 then some (-1000000002 : Int32) else Option.bind (fX9_in μ x2 (0 : Int32) (100 : Int32)) (fun v22 => (if v22 = 0 then some (-1000000002 : Int32) else Option.bind (lpX9_thaw_30 μ x1 x2 1000 (1000000 : Int32) (0 : Int32)) (fun q25 => some q25)))))
def fX9_see (μ : ic_M) (x1 : Int32) (x2 : Int32) : Option (Int32 × ic_M) := Option.bind (fX9_in μ x1 (1 : Int32) (60 : Int32)) (fun v21 => (if v21 = 0 then some ((-1000000002 : Int32), μ) else (if (μ 90 18) = (6 : Int32) then some ((-1000000004 : Int32), μ) else ic_as μ 104 12 ((2 : Int32) * (μ 90 18)) x1 (fun m22 => Option.bind (if x2 = 0 then some (0 : Int32) else some (1 : Int32)) (fun q23 => ic_as m22 104 12 (((2 : Int32) * (m22 90 18)) + (1 : Int32)) q23 (fun m24 => ic_pu m24 90 18 ((m24 90 18) + (1 : Int32)) (fun m25 => some ((m25 90 18), m25))))))))
def lpX9_brokeBy_5 (μ : ic_M) (x1_ : Int32) (x2_ : Int32) : Nat → Int32 → Int32 → Option (Int32)
  | 0, _, _ => none
  | fu + 1, y3_, y4_ => ic_ag μ 92 7 (3 : Int32) (fun v21 => (if v21 ≤ y4_ then some y3_ else Option.bind (fX9_has μ x1_ y4_) (fun v22 => Option.bind (if v22 = 0 then some (0 : Int32) else ic_ag μ 94 12 (((2 : Int32) * y4_) + (1 : Int32)) (fun v24 => some v24)) (fun q23 => ic_lt ((y3_ + q23)) (fun x25 => ic_lt (y4_ + (1 : Int32)) (fun x26 => lpX9_brokeBy_5 μ x1_ x2_ fu x25 x26))))))
def fX9_brokeBy (μ : ic_M) (x1 : Int32) (x2 : Int32) : Option (Int32) := Option.bind (lpX9_brokeBy_5 μ x1 x2 1000 (0 : Int32) (0 : Int32)) (fun q27 => ic_ag μ 92 7 (2 : Int32) (fun v28 => Option.bind (if q27 ≤ (v28 * x2) then some (0 : Int32) else some (1 : Int32)) (fun q29 => some q29)))
def lpX9_isSo_4 (μ : ic_M) (x1_ : Int32) : Nat → Int32 → Int32 → Option (Int32)
  | 0, _, _ => none
  | fu + 1, y2_, y3_ => (if (μ 90 18) ≤ y3_ then some y2_ else Option.bind (if y2_ = 0 then some (0 : Int32) else ic_ag μ 104 12 ((2 : Int32) * y3_) (fun v22 => Option.bind (fX9_brokeBy μ x1_ v22) (fun v23 => ic_ag μ 104 12 (((2 : Int32) * y3_) + (1 : Int32)) (fun v24 => (if v23 = v24 then some (1 : Int32) else some (0 : Int32)))))) (fun q21 => ic_lt (y3_ + (1 : Int32)) (fun x25 => lpX9_isSo_4 μ x1_ fu q21 x25)))
def fX9_isSo (μ : ic_M) (x1 : Int32) : Option (Int32) := Option.bind (lpX9_isSo_4 μ x1 1000 (1 : Int32) (0 : Int32)) (fun q26 => ic_rz q26 (some q26))
def lpX9_who_31 (μ : ic_M) (x1_ : Int32) : Nat → Int32 → Int32 → Int32 → Int32 → Option (Int32 × Int32 × Int32)
  | 0, _, _, _, _ => none
  | fu + 1, y2_, y3_, y4_, y5_ => ic_ag μ 92 7 (3 : Int32) (fun v24 => (if ((1 : Int32) <<< (v24 &&& 31)) ≤ y5_ then some (y2_, y3_, y4_) else Option.bind (fX9_isSo μ y5_) (fun v25 => Option.bind (if v25 = 0 then some (y2_, y3_, y4_) else Option.bind (if y2_ = 0 then some y5_ else some y3_) (fun q27 => ic_lt ((y4_ &&& y5_)) (fun x28 => ic_lt (y2_ + (1 : Int32)) (fun x29 => some (x29, q27, x28))))) (fun q26 => ic_lt (y5_ + (1 : Int32)) (fun x30 => lpX9_who_31 μ x1_ fu q26.1 q26.2.1 q26.2.2 x30)))))
def fX9_who (μ : ic_M) (x1 : Int32) : Option (Int32) := Option.bind (fX9_in μ x1 (0 : Int32) (2 : Int32)) (fun v21 => (if v21 = 0 then some (-1000000002 : Int32) else ic_ag μ 92 7 (3 : Int32) (fun v22 => ic_lt ((((1 : Int32) <<< (v22 &&& 31)) - (1 : Int32))) (fun x23 => Option.bind (lpX9_who_31 μ x1 1000 (0 : Int32) (-1 : Int32) x23 (0 : Int32)) (fun q31 => Option.bind (if x1 = 0 then some q31.1 else (if x1 = (1 : Int32) then some q31.2.1 else (if q31.1 = 0 then some (0 : Int32) else some q31.2.2))) (fun q32 => some q32))))))
def lpX9_ask_26 (μ : ic_M) (x1_ : Int32) (x2_ : Int32) (x3_ : Int32) (x4_ : Int32) : Nat → Int32 → Int32 → Option (Int32)
  | 0, _, _ => none
  | fu + 1, y5_, y6_ => ic_ag μ 92 7 (3 : Int32) (fun v22 => (if ((1 : Int32) <<< (v22 &&& 31)) ≤ y6_ then some y5_ else Option.bind (fX9_isSo μ y6_) (fun v23 => Option.bind (if v23 = 0 then some (0 : Int32) else Option.bind (fX9_brokeBy μ y6_ x4_) (fun v25 => some v25)) (fun q24 => ic_lt ((y5_ + q24)) (fun x26 => ic_lt (y6_ + (1 : Int32)) (fun x27 => lpX9_ask_26 μ x1_ x2_ x3_ x4_ fu x26 x27))))))
def lpX9_ask_13 (μ : ic_M) (x1_ : Int32) : Nat → Int32 → Int32 → Int32 → Option (Int32)
  | 0, _, _, _ => none
  | fu + 1, y2_, y3_, y4_ => (if (61 : Int32) ≤ y4_ then some y2_ else Option.bind (lpX9_ask_26 μ x1_ y2_ y3_ y4_ 1000 (0 : Int32) (0 : Int32)) (fun q28 => Option.bind (fX9_greater μ q28 (x1_ - q28)) (fun v29 => Option.bind (if y3_ ≤ v29 then some y2_ else some y4_) (fun q30 => Option.bind (fX9_lesser μ v29 y3_) (fun v31 => ic_lt (y4_ + (1 : Int32)) (fun x32 => lpX9_ask_13 μ x1_ fu q30 v31 x32))))))
def fX9_ask (μ : ic_M) : Option (Int32) := Option.bind (fX9_who μ (0 : Int32)) (fun v21 => Option.bind (lpX9_ask_13 μ v21 1000 (-1 : Int32) v21 (1 : Int32)) (fun q33 => some q33))
def fX9_write (μ : ic_M) (x1 : Int32) (x2 : Int32) : Option (Int32 × ic_M) := Option.bind (fX9_isCell μ x1) (fun v21 => (if v21 = 0 then some ((-1000000001 : Int32), μ) else Option.bind (fX9_in μ x2 (0 : Int32) (60 : Int32)) (fun v22 => (if v22 = 0 then some ((-1000000002 : Int32), μ) else (if (μ 90 20) = (15 : Int32) then some ((-1000000004 : Int32), μ) else ic_as μ 105 30 ((2 : Int32) * (μ 90 20)) x1 (fun m23 => ic_as m23 105 30 (((2 : Int32) * (m23 90 20)) + (1 : Int32)) x2 (fun m24 => ic_pu m24 90 20 ((m24 90 20) + (1 : Int32)) (fun m25 => some ((m25 90 20), m25)))))))))
def fX9_tear (μ : ic_M) : Option (Int32 × ic_M) := ic_lt (((μ 90 18) + (μ 90 20))) (fun x21 => ic_pu μ 90 18 (0 : Int32) (fun m22 => ic_pu m22 90 20 (0 : Int32) (fun m23 => some (x21, m23))))
def lpX9_judge_2 (μ : ic_M) : Nat → Int32 → Option ((Unit) ⊕ (Int32))
  | 0, _ => none
  | fu + 1, y1_ => (if (μ 90 20) ≤ y1_ then some (.inl ()) else ic_ag μ 105 30 ((2 : Int32) * y1_) (fun v21 => ic_ag μ 98 28 v21 (fun v22 => ic_ag μ 105 30 (((2 : Int32) * y1_) + (1 : Int32)) (fun v23 => (if v22 = v23 then ic_lt (y1_ + (1 : Int32)) (fun x24 => lpX9_judge_2 μ fu x24) else some (.inr y1_))))))
def fX9_judge (μ : ic_M) : Option (Int32) := Option.bind (lpX9_judge_2 μ 1000 (0 : Int32)) (fun q25 => Sum.elim (fun t26 => some (-1 : Int32)) some q25)
set_option maxRecDepth 100000 in
set_option maxHeartbeats 4000000 in
theorem lpX9_heard_78_ok (l : Launch) (κ : ic_K) (sw : Nat) (μ : ic_M) (x2_ : Int32) (x3_ : Int32) (x5_ : Int32) {Z : State → List Frame → Array Value → State → Prop} {R : Int32} (hk : ic_W l κ MX9_heard ic_X0 Z 136 [(0, ic_rv κ.1 90), (2, .int x2_), (3, .int x3_), (4, .int R), (5, .int x5_)] [] 106 (ic_rs sw) μ 0 0) : ∀ (fu : Nat) (y4_ : Int32) (y6_ : Int32), lpX9_heard_78 μ x2_ x3_ x5_ fu y4_ y6_ = some R → ic_W l κ MX9_heard ic_X0 Z 78 [(0, ic_rv κ.1 90), (2, .int x2_), (3, .int x3_), (4, .int y4_), (5, .int x5_), (6, .int y6_)] [] 106 (ic_rs sw) μ 0 0 := by
  intro fu
  induction fu with
  | zero =>
    intro y4_ y6_ hf
    exact absurd hf (by simp [lpX9_heard_78])
  | succ fu ih =>
    intro y4_ y6_ hf
    rw [lpX9_heard_78] at hf
    refine iw_iload (i := 6) (pc' := 80) 5 rfl (by decide +kernel) ?_
    refine iw_aload_n (i := 0) (pc' := 81) 0 rfl (by decide +kernel) ?_
    obtain ⟨v26, hc, hf⟩ := ic_bd hf
    refine iw_callV (pc' := 84) (S0 := [.int y6_]) (S1 := [.int v26, .int y6_]) (c1 := 0) (s1 := 0) (k := 0) (ct_X9_cells l κ sw μ hc) cO_90 ⟨rfl, rfl⟩ mv_X9_cells lkm_X9_120 ⟨rfl, rfl⟩ (ic_sum8 ⟨rfl, trivial⟩ (Nat.le_of_ble_eq_true rfl)) (by unfold ic_rm; decide +kernel) ⟨rfl, rfl, rfl⟩ ⟨Nat.le_of_ble_eq_true rfl, Nat.le_of_ble_eq_true rfl⟩ ?_
    refine iw_icmp_ge (off := 52) (tg := 136) (pc' := 87) hf (by decide +kernel) (fun hf => ?_) (fun hf => ?_)
    · obtain rfl := Option.some.inj hf
      exact iw_sub [0, 1, 2, 3, 4] rfl hk
    · refine iw_iload (i := 4) (pc' := 89) 3 rfl (by decide +kernel) ?_
      refine iw_iload_n (i := 2) (pc' := 90) 1 rfl (by decide +kernel) ?_
      refine iw_iload (i := 5) (pc' := 92) 4 rfl (by decide +kernel) ?_
      obtain ⟨v27, hc, hf⟩ := ic_bd hf
      refine iw_callS (pc' := 95) (S0 := [.int y4_]) (S1 := [.int v27, .int y4_]) (c1 := 0) (s1 := 0) (k := 2) (ct_X9_has l κ sw μ x2_ x5_ hc) ms_X9_has lkm_X9_147 ⟨rfl, rfl⟩ (ic_sum8 ⟨rfl, trivial⟩ (Nat.le_of_ble_eq_true rfl)) (by unfold ic_rm; decide +kernel) ⟨rfl, rfl, rfl⟩ ⟨Nat.le_of_ble_eq_true rfl, Nat.le_of_ble_eq_true rfl⟩ ?_
      obtain ⟨q28, hf, hgq28⟩ := ic_bd hf
      have hjq28 : ic_W l κ MX9_heard ic_X0 Z 127 [(0, ic_rv κ.1 90), (2, .int x2_), (3, .int x3_), (5, .int x5_), (6, .int y6_)] [.int q28, .int y4_] 106 (ic_rs sw) μ 0 0 := by
        have hf := hgq28
        refine iw_ior (pc' := 128) (by decide +kernel) ?_
        refine iw_istore (i := 4) (pc' := 130) (L1 := fun x31 => [(0, ic_rv κ.1 90), (2, .int x2_), (3, .int x3_), (4, .int x31), (5, .int x5_), (6, .int y6_)]) hf (fun _ => rfl) (by decide +kernel) (fun x31 hf => ?_)
        refine iw_iinc (i := 6) (d := 1) (pc' := 133) (v := (1 : Int32)) (L1 := fun x32 => [(0, ic_rv κ.1 90), (2, .int x2_), (3, .int x3_), (4, .int x31), (5, .int x5_), (6, .int x32)]) hf 5 rfl (fun _ => rfl) (by decide +kernel) (fun x32 hf => ?_)
        refine iw_goto (off := (-55)) (pc' := 78) (by decide +kernel) ?_
        exact iw_sub [0, 1, 2, 3, 4, 5] rfl (ih _ _ hf)
      refine iw_if_eq (off := 31) (tg := 126) (pc' := 98) hf (by decide +kernel) (fun hf => ?_) (fun hf => ?_)
      · refine iw_iconst (i := 0) (v := (0 : Int32)) (pc' := 127) (by decide +kernel) ?_
        obtain rfl := Option.some.inj hf
        exact iw_sub [0, 1, 2, 4, 5] rfl hjq28
      · refine iw_aload_n (i := 0) (pc' := 99) 0 rfl (by decide +kernel) ?_
        refine iw_getr (pc' := 102) (q := 98) ic_fk9 cO_90 rfl lkf_X9_35 (by decide +kernel) ?_
        refine iw_iload (i := 6) (pc' := 104) 5 rfl (by decide +kernel) ?_
        refine iw_iald (pc' := 105) hf (fun _ => cI_98) (by decide +kernel) (fun v29 hf => ?_)
        refine iw_if_le (off := 21) (tg := 126) (pc' := 108) hf (by decide +kernel) (fun hf => ?_) (fun hf => ?_)
        · refine iw_iconst (i := 0) (v := (0 : Int32)) (pc' := 127) (by decide +kernel) ?_
          obtain rfl := Option.some.inj hf
          exact iw_sub [0, 1, 2, 4, 5] rfl hjq28
        · refine iw_aload_n (i := 0) (pc' := 109) 0 rfl (by decide +kernel) ?_
          refine iw_iload (i := 5) (pc' := 111) 4 rfl (by decide +kernel) ?_
          refine iw_iload (i := 6) (pc' := 113) 5 rfl (by decide +kernel) ?_
          obtain ⟨v30, hc, hf⟩ := ic_bd hf
          refine iw_callV (pc' := 116) (S0 := [.int y4_]) (S1 := [.int v30, .int y4_]) (c1 := 0) (s1 := 0) (k := 2) (ct_X9_areNext l κ sw μ x5_ y6_ hc) cO_90 ⟨rfl, rfl⟩ mv_X9_areNext lkm_X9_132 ⟨rfl, rfl⟩ (ic_sum8 ⟨rfl, trivial⟩ (Nat.le_of_ble_eq_true rfl)) (by unfold ic_rm; decide +kernel) ⟨rfl, rfl, rfl⟩ ⟨Nat.le_of_ble_eq_true rfl, Nat.le_of_ble_eq_true rfl⟩ ?_
          refine iw_if_eq (off := 10) (tg := 126) (pc' := 119) hf (by decide +kernel) (fun hf => ?_) (fun hf => ?_)
          · refine iw_iconst (i := 0) (v := (0 : Int32)) (pc' := 127) (by decide +kernel) ?_
            obtain rfl := Option.some.inj hf
            exact iw_sub [0, 1, 2, 4, 5] rfl hjq28
          · refine iw_iconst (i := 1) (v := (1 : Int32)) (pc' := 120) (by decide +kernel) ?_
            refine iw_iload (i := 6) (pc' := 122) 5 rfl (by decide +kernel) ?_
            refine iw_ishl (pc' := 123) (by decide +kernel) ?_
            refine iw_goto (off := 4) (pc' := 127) (by decide +kernel) ?_
            obtain rfl := Option.some.inj hf
            exact iw_sub [0, 1, 2, 4, 5] rfl hjq28
set_option maxRecDepth 100000 in
set_option maxHeartbeats 4000000 in
theorem lpX9_heard_41_ok (l : Launch) (κ : ic_K) (sw : Nat) (μ : ic_M) (x2_ : Int32) (x3_ : Int32) {Rf : Int32} {R : (Int32) ⊕ (Int32)} (hk : ∀ t, R = .inl t → ic_W l κ MX9_heard ic_X0 (ic_Z κ MX9_heard (some (.int Rf)) 106 (ic_rs sw) μ) 142 [(0, ic_rv κ.1 90), (3, .int x3_), (4, .int t)] [] 106 (ic_rs sw) μ 0 0) (hr : ∀ v, R = .inr v → v = Rf) : ∀ (fu : Nat) (y4_ : Int32) (y5_ : Int32), lpX9_heard_41 μ x2_ x3_ fu y4_ y5_ = some R → ic_W l κ MX9_heard ic_X0 (ic_Z κ MX9_heard (some (.int Rf)) 106 (ic_rs sw) μ) 41 [(0, ic_rv κ.1 90), (2, .int x2_), (3, .int x3_), (4, .int y4_), (5, .int y5_)] [] 106 (ic_rs sw) μ 0 0 := by
  intro fu
  induction fu with
  | zero =>
    intro y4_ y5_ hf
    exact absurd hf (by simp [lpX9_heard_41])
  | succ fu ih =>
    intro y4_ y5_ hf
    rw [lpX9_heard_41] at hf
    refine iw_iload (i := 5) (pc' := 43) 4 rfl (by decide +kernel) ?_
    refine iw_aload_n (i := 0) (pc' := 44) 0 rfl (by decide +kernel) ?_
    obtain ⟨v24, hc, hf⟩ := ic_bd hf
    refine iw_callV (pc' := 47) (S0 := [.int y5_]) (S1 := [.int v24, .int y5_]) (c1 := 0) (s1 := 0) (k := 0) (ct_X9_cells l κ sw μ hc) cO_90 ⟨rfl, rfl⟩ mv_X9_cells lkm_X9_120 ⟨rfl, rfl⟩ (ic_sum8 ⟨rfl, trivial⟩ (Nat.le_of_ble_eq_true rfl)) (by unfold ic_rm; decide +kernel) ⟨rfl, rfl, rfl⟩ ⟨Nat.le_of_ble_eq_true rfl, Nat.le_of_ble_eq_true rfl⟩ ?_
    refine iw_icmp_ge (off := 95) (tg := 142) (pc' := 50) hf (by decide +kernel) (fun hf => ?_) (fun hf => ?_)
    · exact iw_sub [0, 2, 3] rfl (hk _ (Option.some.inj hf).symm)
    · refine iw_iload_n (i := 2) (pc' := 51) 1 rfl (by decide +kernel) ?_
      refine iw_iload (i := 5) (pc' := 53) 4 rfl (by decide +kernel) ?_
      obtain ⟨v25, hc, hf⟩ := ic_bd hf
      refine iw_callS (pc' := 56) (S0 := []) (S1 := [.int v25]) (c1 := 0) (s1 := 0) (k := 2) (ct_X9_has l κ sw μ x2_ y5_ hc) ms_X9_has lkm_X9_147 ⟨rfl, rfl⟩ (ic_sum8 trivial (Nat.le_of_ble_eq_true rfl)) (by unfold ic_rm; decide +kernel) ⟨rfl, rfl, rfl⟩ ⟨Nat.le_of_ble_eq_true rfl, Nat.le_of_ble_eq_true rfl⟩ ?_
      refine iw_if_eq (off := 19) (tg := 75) (pc' := 59) hf (by decide +kernel) (fun hf => ?_) (fun hf => ?_)
      · refine iw_iconst (i := 0) (v := (0 : Int32)) (pc' := 76) (by decide +kernel) ?_
        refine iw_istore0 (i := 6) (pc' := 78) (L' := [(0, ic_rv κ.1 90), (2, .int x2_), (3, .int x3_), (4, .int y4_), (5, .int y5_), (6, .int (0 : Int32))]) rfl (by decide +kernel) ?_
        obtain ⟨q33, hf, hgq33⟩ := ic_bd hf
        have hjq33 : ic_W l κ MX9_heard ic_X0 (ic_Z κ MX9_heard (some (.int Rf)) 106 (ic_rs sw) μ) 136 [(0, ic_rv κ.1 90), (2, .int x2_), (3, .int x3_), (4, .int q33), (5, .int y5_)] [] 106 (ic_rs sw) μ 0 0 := by
          have hf := hgq33
          refine iw_iinc (i := 5) (d := 1) (pc' := 139) (v := (1 : Int32)) (L1 := fun x34 => [(0, ic_rv κ.1 90), (2, .int x2_), (3, .int x3_), (4, .int q33), (5, .int x34)]) hf 4 rfl (fun _ => rfl) (by decide +kernel) (fun x34 hf => ?_)
          refine iw_goto (off := (-98)) (pc' := 41) (by decide +kernel) ?_
          exact iw_sub [0, 1, 2, 3, 4] rfl (ih _ _ hf)
        exact iw_sub [0, 1, 2, 3, 4, 5] rfl (lpX9_heard_78_ok l κ sw μ x2_ x3_ y5_ hjq33 1000 y4_ (0 : Int32) hf)
      · refine iw_aload_n (i := 0) (pc' := 60) 0 rfl (by decide +kernel) ?_
        refine iw_aload_n (i := 0) (pc' := 61) 0 rfl (by decide +kernel) ?_
        refine iw_getr (pc' := 64) (q := 98) ic_fk9 cO_90 rfl lkf_X9_35 (by decide +kernel) ?_
        refine iw_iload (i := 5) (pc' := 66) 4 rfl (by decide +kernel) ?_
        obtain ⟨v35, hc, hf⟩ := ic_bd hf
        refine iw_callV (pc' := 69) (S0 := []) (S1 := [.int v35]) (c1 := 0) (s1 := 0) (k := 2) (ct_X9_cracks l κ sw μ 98 y5_ hc) cO_90 ⟨rfl, rfl⟩ mv_X9_cracks lkm_X9_171 ⟨rfl, rfl⟩ (ic_sum8 trivial (Nat.le_of_ble_eq_true rfl)) (by unfold ic_rm; decide +kernel) ⟨rfl, rfl, rfl⟩ ⟨Nat.le_of_ble_eq_true rfl, Nat.le_of_ble_eq_true rfl⟩ ?_
        refine iw_if_eq (off := 6) (tg := 75) (pc' := 72) hf (by decide +kernel) (fun hf => ?_) (fun hf => ?_)
        · refine iw_iconst (i := 0) (v := (0 : Int32)) (pc' := 76) (by decide +kernel) ?_
          refine iw_istore0 (i := 6) (pc' := 78) (L' := [(0, ic_rv κ.1 90), (2, .int x2_), (3, .int x3_), (4, .int y4_), (5, .int y5_), (6, .int (0 : Int32))]) rfl (by decide +kernel) ?_
          obtain ⟨q43, hf, hgq43⟩ := ic_bd hf
          have hjq43 : ic_W l κ MX9_heard ic_X0 (ic_Z κ MX9_heard (some (.int Rf)) 106 (ic_rs sw) μ) 136 [(0, ic_rv κ.1 90), (2, .int x2_), (3, .int x3_), (4, .int q43), (5, .int y5_)] [] 106 (ic_rs sw) μ 0 0 := by
            have hf := hgq43
            refine iw_iinc (i := 5) (d := 1) (pc' := 139) (v := (1 : Int32)) (L1 := fun x44 => [(0, ic_rv κ.1 90), (2, .int x2_), (3, .int x3_), (4, .int q43), (5, .int x44)]) hf 4 rfl (fun _ => rfl) (by decide +kernel) (fun x44 hf => ?_)
            refine iw_goto (off := (-98)) (pc' := 41) (by decide +kernel) ?_
            exact iw_sub [0, 1, 2, 3, 4] rfl (ih _ _ hf)
          exact iw_sub [0, 1, 2, 3, 4, 5] rfl (lpX9_heard_78_ok l κ sw μ x2_ x3_ y5_ hjq43 1000 y4_ (0 : Int32) hf)
        · refine iw_iload (i := 5) (pc' := 74) 4 rfl (by decide +kernel) ?_
          exact iw_ireturn (hr _ (Option.some.inj hf).symm) rfl rfl (by decide +kernel)
set_option maxRecDepth 100000 in
set_option maxHeartbeats 4000000 in
theorem lpX9_heard_30_ok (l : Launch) (κ : ic_K) (sw : Nat) (μ : ic_M) {Rf : Int32} {R : (Unit) ⊕ (Int32)} (hk : ∀ t, R = .inl t → ic_W l κ MX9_heard ic_X0 (ic_Z κ MX9_heard (some (.int Rf)) 106 (ic_rs sw) μ) 151 [] [] 106 (ic_rs sw) μ 0 0) (hr : ∀ v, R = .inr v → v = Rf) : ∀ (fu : Nat) (y2_ : Int32) (y3_ : Int32), lpX9_heard_30 μ fu y2_ y3_ = some R → ic_W l κ MX9_heard ic_X0 (ic_Z κ MX9_heard (some (.int Rf)) 106 (ic_rs sw) μ) 30 [(0, ic_rv κ.1 90), (2, .int y2_), (3, .int y3_)] [] 106 (ic_rs sw) μ 0 0 := by
  intro fu
  induction fu with
  | zero =>
    intro y2_ y3_ hf
    exact absurd hf (by simp [lpX9_heard_30])
  | succ fu ih =>
    intro y2_ y3_ hf
    rw [lpX9_heard_30] at hf
    refine iw_iload_n (i := 3) (pc' := 31) 2 rfl (by decide +kernel) ?_
    refine iw_iconst (i := 4) (v := (4 : Int32)) (pc' := 32) (by decide +kernel) ?_
    refine iw_icmp_ge (off := 119) (tg := 151) (pc' := 35) hf (by decide +kernel) (fun hf => ?_) (fun hf => ?_)
    · exact iw_sub [] rfl (hk _ (Option.some.inj hf).symm)
    · refine iw_iload_n (i := 2) (pc' := 36) 1 rfl (by decide +kernel) ?_
      refine iw_istore0 (i := 4) (pc' := 38) (L' := [(0, ic_rv κ.1 90), (2, .int y2_), (3, .int y3_), (4, .int y2_)]) rfl (by decide +kernel) ?_
      refine iw_iconst (i := 0) (v := (0 : Int32)) (pc' := 39) (by decide +kernel) ?_
      refine iw_istore0 (i := 5) (pc' := 41) (L' := [(0, ic_rv κ.1 90), (2, .int y2_), (3, .int y3_), (4, .int y2_), (5, .int (0 : Int32))]) rfl (by decide +kernel) ?_
      obtain ⟨q45, hf, hgq45⟩ := ic_bd hf
      refine iw_sub [0, 1, 2, 3, 4] rfl (lpX9_heard_41_ok l κ sw μ y2_ y3_ (R := q45) (fun t46 e => ?_) (fun v e => ?_) 1000 y2_ (0 : Int32) hf)
      · subst e
        simp only [Sum.elim_inl] at hgq45
        have hf := hgq45
        refine iw_iload (i := 4) (pc' := 144) 2 rfl (by decide +kernel) ?_
        refine iw_istore_n0 (i := 2) (pc' := 145) (L' := [(0, ic_rv κ.1 90), (2, .int t46), (3, .int y3_), (4, .int t46)]) rfl (by decide +kernel) ?_
        refine iw_iinc (i := 3) (d := 1) (pc' := 148) (v := (1 : Int32)) (L1 := fun x47 => [(0, ic_rv κ.1 90), (2, .int t46), (3, .int x47), (4, .int t46)]) hf 2 rfl (fun _ => rfl) (by decide +kernel) (fun x47 hf => ?_)
        refine iw_goto (off := (-118)) (pc' := 30) (by decide +kernel) ?_
        exact iw_sub [0, 1, 2] rfl (ih _ _ hf)
      · subst e
        simp only [Sum.elim_inr] at hgq45
        exact hr _ (Option.some.inj hgq45).symm
set_option maxRecDepth 100000 in
set_option maxHeartbeats 4000000 in
theorem ct_X9_heard (l : Launch) (κ : ic_K) (sw : Nat) (μ : ic_M) (x1 : Int32) {R : Int32} (hf : fX9_heard μ x1 = some R) : ic_C l κ MX9_heard [ic_rv κ.1 90, .int x1] 106 (ic_rs sw) μ (some (.int R)) 106 (ic_rs sw) μ := by
  refine ic_C.of (L := [(0, ic_rv κ.1 90), (1, .int x1)]) ⟨ic_cat _ _, rfl, trivial⟩ ⟨by decide +kernel, Nat.le_of_ble_eq_true rfl⟩ rfl ?_
  unfold fX9_heard at hf
  refine iw_aload_n (i := 0) (pc' := 1) 0 rfl (by decide +kernel) ?_
  refine iw_iload_n (i := 1) (pc' := 2) 1 rfl (by decide +kernel) ?_
  obtain ⟨v21, hc, hf⟩ := ic_bd hf
  refine iw_callV (pc' := 5) (S0 := []) (S1 := [.int v21]) (c1 := 0) (s1 := 0) (k := 1) (ct_X9_isCell l κ sw μ x1 hc) cO_90 ⟨rfl, rfl⟩ mv_X9_isCell lkm_X9_190 ⟨rfl, rfl⟩ (ic_sum8 trivial (Nat.le_of_ble_eq_true rfl)) (by unfold ic_rm; decide +kernel) ⟨rfl, rfl, rfl⟩ ⟨Nat.le_of_ble_eq_true rfl, Nat.le_of_ble_eq_true rfl⟩ ?_
  refine iw_if_ne (off := 6) (tg := 11) (pc' := 8) hf (by decide +kernel) (fun hf => ?_) (fun hf => ?_)
  · refine iw_aload_n (i := 0) (pc' := 12) 0 rfl (by decide +kernel) ?_
    refine iw_getr (pc' := 15) (q := 98) ic_fk9 cO_90 rfl lkf_X9_35 (by decide +kernel) ?_
    refine iw_iload_n (i := 1) (pc' := 16) 1 rfl (by decide +kernel) ?_
    refine iw_iald (pc' := 17) hf (fun _ => cI_98) (by decide +kernel) (fun v22 hf => ?_)
    obtain ⟨q23, hf, hgq23⟩ := ic_bd hf
    have hjq23 : ic_W l κ MX9_heard ic_X0 (ic_Z κ MX9_heard (some (.int R)) 106 (ic_rs sw) μ) 27 [(0, ic_rv κ.1 90)] [.int q23] 106 (ic_rs sw) μ 0 0 := by
      have hf := hgq23
      refine iw_istore_n0 (i := 2) (pc' := 28) (L' := [(0, ic_rv κ.1 90), (2, .int q23)]) rfl (by decide +kernel) ?_
      refine iw_iconst (i := 0) (v := (0 : Int32)) (pc' := 29) (by decide +kernel) ?_
      refine iw_istore_n0 (i := 3) (pc' := 30) (L' := [(0, ic_rv κ.1 90), (2, .int q23), (3, .int (0 : Int32))]) rfl (by decide +kernel) ?_
      obtain ⟨q48, hf, hgq48⟩ := ic_bd hf
      refine iw_sub [0, 1, 2] rfl (lpX9_heard_30_ok l κ sw μ (R := q48) (fun t49 e => ?_) (fun v e => ?_) 1000 q23 (0 : Int32) hf)
      · subst e
        simp only [Sum.elim_inl] at hgq48
        have hf := hgq48
        refine iw_iconst (i := (-1)) (v := (-1 : Int32)) (pc' := 152) (by decide +kernel) ?_
        exact iw_ireturn (Option.some.inj hf) rfl rfl (by decide +kernel)
      · subst e
        simp only [Sum.elim_inr] at hgq48
        exact Option.some.inj hgq48
    refine iw_if_le (off := 9) (tg := 26) (pc' := 20) hf (by decide +kernel) (fun hf => ?_) (fun hf => ?_)
    · refine iw_iconst (i := 0) (v := (0 : Int32)) (pc' := 27) (by decide +kernel) ?_
      obtain rfl := Option.some.inj hf
      exact iw_sub [0] rfl hjq23
    · refine iw_iconst (i := 1) (v := (1 : Int32)) (pc' := 21) (by decide +kernel) ?_
      refine iw_iload_n (i := 1) (pc' := 22) 1 rfl (by decide +kernel) ?_
      refine iw_ishl (pc' := 23) (by decide +kernel) ?_
      refine iw_goto (off := 4) (pc' := 27) (by decide +kernel) ?_
      obtain rfl := Option.some.inj hf
      exact iw_sub [0] rfl hjq23
  · refine iw_ldc (pc' := 10) lkc_X9_194 (by decide +kernel) ?_
    exact iw_ireturn (Option.some.inj hf) rfl rfl (by decide +kernel)
set_option maxRecDepth 100000 in
set_option maxHeartbeats 4000000 in
theorem ct_X9_lesser (l : Launch) (κ : ic_K) (sw : Nat) (μ : ic_M) (x0 : Int32) (x1 : Int32) {R : Int32} (hf : fX9_lesser μ x0 x1 = some R) : ic_C l κ MX9_lesser [.int x0, .int x1] 106 (ic_rs sw) μ (some (.int R)) 106 (ic_rs sw) μ := by
  refine ic_C.of (L := [(0, .int x0), (1, .int x1)]) ⟨rfl, rfl, trivial⟩ ⟨by decide +kernel, Nat.le_of_ble_eq_true rfl⟩ rfl ?_
  unfold fX9_lesser at hf
  refine iw_iload_n (i := 0) (pc' := 1) 0 rfl (by decide +kernel) ?_
  refine iw_iload_n (i := 1) (pc' := 2) 1 rfl (by decide +kernel) ?_
  obtain ⟨q21, hf, hgq21⟩ := ic_bd hf
  have hjq21 : ic_W l κ MX9_lesser ic_X0 (ic_Z κ MX9_lesser (some (.int R)) 106 (ic_rs sw) μ) 10 [] [.int q21] 106 (ic_rs sw) μ 0 0 := by
    have hf := hgq21
    exact iw_ireturn (Option.some.inj hf) rfl rfl (by decide +kernel)
  refine iw_icmp_ge (off := 7) (tg := 9) (pc' := 5) hf (by decide +kernel) (fun hf => ?_) (fun hf => ?_)
  · refine iw_iload_n (i := 1) (pc' := 10) 1 rfl (by decide +kernel) ?_
    obtain rfl := Option.some.inj hf
    exact iw_sub [] rfl hjq21
  · refine iw_iload_n (i := 0) (pc' := 6) 0 rfl (by decide +kernel) ?_
    refine iw_goto (off := 4) (pc' := 10) (by decide +kernel) ?_
    obtain rfl := Option.some.inj hf
    exact iw_sub [] rfl hjq21
set_option maxRecDepth 100000 in
set_option maxHeartbeats 4000000 in
theorem ct_X9_greater (l : Launch) (κ : ic_K) (sw : Nat) (μ : ic_M) (x0 : Int32) (x1 : Int32) {R : Int32} (hf : fX9_greater μ x0 x1 = some R) : ic_C l κ MX9_greater [.int x0, .int x1] 106 (ic_rs sw) μ (some (.int R)) 106 (ic_rs sw) μ := by
  refine ic_C.of (L := [(0, .int x0), (1, .int x1)]) ⟨rfl, rfl, trivial⟩ ⟨by decide +kernel, Nat.le_of_ble_eq_true rfl⟩ rfl ?_
  unfold fX9_greater at hf
  refine iw_iload_n (i := 0) (pc' := 1) 0 rfl (by decide +kernel) ?_
  refine iw_iload_n (i := 1) (pc' := 2) 1 rfl (by decide +kernel) ?_
  obtain ⟨q21, hf, hgq21⟩ := ic_bd hf
  have hjq21 : ic_W l κ MX9_greater ic_X0 (ic_Z κ MX9_greater (some (.int R)) 106 (ic_rs sw) μ) 10 [] [.int q21] 106 (ic_rs sw) μ 0 0 := by
    have hf := hgq21
    exact iw_ireturn (Option.some.inj hf) rfl rfl (by decide +kernel)
  refine iw_icmp_le (off := 7) (tg := 9) (pc' := 5) hf (by decide +kernel) (fun hf => ?_) (fun hf => ?_)
  · refine iw_iload_n (i := 1) (pc' := 10) 1 rfl (by decide +kernel) ?_
    obtain rfl := Option.some.inj hf
    exact iw_sub [] rfl hjq21
  · refine iw_iload_n (i := 0) (pc' := 6) 0 rfl (by decide +kernel) ?_
    refine iw_goto (off := 4) (pc' := 10) (by decide +kernel) ?_
    obtain rfl := Option.some.inj hf
    exact iw_sub [] rfl hjq21
set_option maxRecDepth 100000 in
set_option maxHeartbeats 4000000 in
theorem ct_X9_game (l : Launch) (κ : ic_K) (sw : Nat) (μ : ic_M) (x1 : Int32) (x2 : Int32) (x3 : Int32) (x4 : Int32) (x5 : Int32) {R : Int32} (hf : fX9_game μ x1 x2 x3 x4 x5 = some R) : ic_C l κ MX9_game [ic_rv κ.1 90, .int x1, .int x2, .int x3, .int x4, .int x5] 106 (ic_rs sw) μ (some (.int R)) 106 (ic_rs sw) μ := by
  refine ic_C.of (L := [(0, ic_rv κ.1 90), (1, .int x1), (2, .int x2), (3, .int x3), (4, .int x4), (5, .int x5)]) ⟨ic_cat _ _, rfl, rfl, rfl, rfl, rfl, trivial⟩ ⟨by decide +kernel, Nat.le_of_ble_eq_true rfl⟩ rfl ?_
  unfold fX9_game at hf
  refine iw_iload_n (i := 1) (pc' := 1) 1 rfl (by decide +kernel) ?_
  refine iw_iconst (i := 0) (v := (0 : Int32)) (pc' := 2) (by decide +kernel) ?_
  refine iw_bipush (i := 99) (v := (99 : Int32)) (pc' := 4) (by decide +kernel) ?_
  obtain ⟨v21, hc, hf⟩ := ic_bd hf
  refine iw_callS (pc' := 7) (S0 := []) (S1 := [.int v21]) (c1 := 0) (s1 := 0) (k := 3) (ct_X9_in l κ sw μ x1 (0 : Int32) (99 : Int32) hc) ms_X9_in lkm_X9_63 ⟨rfl, rfl⟩ (ic_sum8 trivial (Nat.le_of_ble_eq_true rfl)) (by unfold ic_rm; decide +kernel) ⟨rfl, rfl, rfl⟩ ⟨Nat.le_of_ble_eq_true rfl, Nat.le_of_ble_eq_true rfl⟩ ?_
  refine iw_if_eq (off := 44) (tg := 51) (pc' := 10) hf (by decide +kernel) (fun hf => ?_) (fun hf => ?_)
  · refine iw_ldc (pc' := 53) lkc_X9_67 (by decide +kernel) ?_
    exact iw_ireturn (Option.some.inj hf) rfl rfl (by decide +kernel)
  · refine iw_iload_n (i := 2) (pc' := 11) 2 rfl (by decide +kernel) ?_
    refine iw_iconst (i := 0) (v := (0 : Int32)) (pc' := 12) (by decide +kernel) ?_
    refine iw_bipush (i := 99) (v := (99 : Int32)) (pc' := 14) (by decide +kernel) ?_
    obtain ⟨v22, hc, hf⟩ := ic_bd hf
    refine iw_callS (pc' := 17) (S0 := []) (S1 := [.int v22]) (c1 := 0) (s1 := 0) (k := 3) (ct_X9_in l κ sw μ x2 (0 : Int32) (99 : Int32) hc) ms_X9_in lkm_X9_63 ⟨rfl, rfl⟩ (ic_sum8 trivial (Nat.le_of_ble_eq_true rfl)) (by unfold ic_rm; decide +kernel) ⟨rfl, rfl, rfl⟩ ⟨Nat.le_of_ble_eq_true rfl, Nat.le_of_ble_eq_true rfl⟩ ?_
    refine iw_if_eq (off := 34) (tg := 51) (pc' := 20) hf (by decide +kernel) (fun hf => ?_) (fun hf => ?_)
    · refine iw_ldc (pc' := 53) lkc_X9_67 (by decide +kernel) ?_
      exact iw_ireturn (Option.some.inj hf) rfl rfl (by decide +kernel)
    · refine iw_iload_n (i := 3) (pc' := 21) 3 rfl (by decide +kernel) ?_
      refine iw_iconst (i := 0) (v := (0 : Int32)) (pc' := 22) (by decide +kernel) ?_
      refine iw_bipush (i := 99) (v := (99 : Int32)) (pc' := 24) (by decide +kernel) ?_
      obtain ⟨v23, hc, hf⟩ := ic_bd hf
      refine iw_callS (pc' := 27) (S0 := []) (S1 := [.int v23]) (c1 := 0) (s1 := 0) (k := 3) (ct_X9_in l κ sw μ x3 (0 : Int32) (99 : Int32) hc) ms_X9_in lkm_X9_63 ⟨rfl, rfl⟩ (ic_sum8 trivial (Nat.le_of_ble_eq_true rfl)) (by unfold ic_rm; decide +kernel) ⟨rfl, rfl, rfl⟩ ⟨Nat.le_of_ble_eq_true rfl, Nat.le_of_ble_eq_true rfl⟩ ?_
      refine iw_if_eq (off := 24) (tg := 51) (pc' := 30) hf (by decide +kernel) (fun hf => ?_) (fun hf => ?_)
      · refine iw_ldc (pc' := 53) lkc_X9_67 (by decide +kernel) ?_
        exact iw_ireturn (Option.some.inj hf) rfl rfl (by decide +kernel)
      · refine iw_iload (i := 4) (pc' := 32) 4 rfl (by decide +kernel) ?_
        refine iw_iconst (i := 0) (v := (0 : Int32)) (pc' := 33) (by decide +kernel) ?_
        refine iw_bipush (i := 99) (v := (99 : Int32)) (pc' := 35) (by decide +kernel) ?_
        obtain ⟨v24, hc, hf⟩ := ic_bd hf
        refine iw_callS (pc' := 38) (S0 := []) (S1 := [.int v24]) (c1 := 0) (s1 := 0) (k := 3) (ct_X9_in l κ sw μ x4 (0 : Int32) (99 : Int32) hc) ms_X9_in lkm_X9_63 ⟨rfl, rfl⟩ (ic_sum8 trivial (Nat.le_of_ble_eq_true rfl)) (by unfold ic_rm; decide +kernel) ⟨rfl, rfl, rfl⟩ ⟨Nat.le_of_ble_eq_true rfl, Nat.le_of_ble_eq_true rfl⟩ ?_
        refine iw_if_eq (off := 13) (tg := 51) (pc' := 41) hf (by decide +kernel) (fun hf => ?_) (fun hf => ?_)
        · refine iw_ldc (pc' := 53) lkc_X9_67 (by decide +kernel) ?_
          exact iw_ireturn (Option.some.inj hf) rfl rfl (by decide +kernel)
        · refine iw_iload (i := 5) (pc' := 43) 5 rfl (by decide +kernel) ?_
          refine iw_iconst (i := 0) (v := (0 : Int32)) (pc' := 44) (by decide +kernel) ?_
          refine iw_iconst (i := 1) (v := (1 : Int32)) (pc' := 45) (by decide +kernel) ?_
          obtain ⟨v25, hc, hf⟩ := ic_bd hf
          refine iw_callS (pc' := 48) (S0 := []) (S1 := [.int v25]) (c1 := 0) (s1 := 0) (k := 3) (ct_X9_in l κ sw μ x5 (0 : Int32) (1 : Int32) hc) ms_X9_in lkm_X9_63 ⟨rfl, rfl⟩ (ic_sum8 trivial (Nat.le_of_ble_eq_true rfl)) (by unfold ic_rm; decide +kernel) ⟨rfl, rfl, rfl⟩ ⟨Nat.le_of_ble_eq_true rfl, Nat.le_of_ble_eq_true rfl⟩ ?_
          refine iw_if_ne (off := 6) (tg := 54) (pc' := 51) hf (by decide +kernel) (fun hf => ?_) (fun hf => ?_)
          · refine iw_iload_n (i := 1) (pc' := 55) 1 rfl (by decide +kernel) ?_
            refine iw_iload_n (i := 2) (pc' := 56) 2 rfl (by decide +kernel) ?_
            obtain ⟨v26, hc, hf⟩ := ic_bd hf
            refine iw_callS (pc' := 59) (S0 := []) (S1 := [.int v26]) (c1 := 0) (s1 := 0) (k := 2) (ct_X9_lesser l κ sw μ x1 x2 hc) ms_X9_lesser lkm_X9_252 ⟨rfl, rfl⟩ (ic_sum8 trivial (Nat.le_of_ble_eq_true rfl)) (by unfold ic_rm; decide +kernel) ⟨rfl, rfl, rfl⟩ ⟨Nat.le_of_ble_eq_true rfl, Nat.le_of_ble_eq_true rfl⟩ ?_
            refine iw_istore0 (i := 6) (pc' := 61) (L' := [(0, ic_rv κ.1 90), (1, .int x1), (2, .int x2), (3, .int x3), (4, .int x4), (5, .int x5), (6, .int v26)]) rfl (by decide +kernel) ?_
            refine iw_iload_n (i := 3) (pc' := 62) 3 rfl (by decide +kernel) ?_
            refine iw_iload (i := 4) (pc' := 64) 4 rfl (by decide +kernel) ?_
            obtain ⟨v27, hc, hf⟩ := ic_bd hf
            refine iw_callS (pc' := 67) (S0 := []) (S1 := [.int v27]) (c1 := 0) (s1 := 0) (k := 2) (ct_X9_lesser l κ sw μ x3 x4 hc) ms_X9_lesser lkm_X9_252 ⟨rfl, rfl⟩ (ic_sum8 trivial (Nat.le_of_ble_eq_true rfl)) (by unfold ic_rm; decide +kernel) ⟨rfl, rfl, rfl⟩ ⟨Nat.le_of_ble_eq_true rfl, Nat.le_of_ble_eq_true rfl⟩ ?_
            refine iw_istore0 (i := 7) (pc' := 69) (L' := [(0, ic_rv κ.1 90), (1, .int x1), (2, .int x2), (3, .int x3), (4, .int x4), (5, .int x5), (6, .int v26), (7, .int v27)]) rfl (by decide +kernel) ?_
            refine iw_iload (i := 6) (pc' := 71) 6 rfl (by decide +kernel) ?_
            refine iw_iload (i := 7) (pc' := 73) 7 rfl (by decide +kernel) ?_
            obtain ⟨v28, hc, hf⟩ := ic_bd hf
            refine iw_callS (pc' := 76) (S0 := []) (S1 := [.int v28]) (c1 := 0) (s1 := 0) (k := 2) (ct_X9_greater l κ sw μ v26 v27 hc) ms_X9_greater lkm_X9_255 ⟨rfl, rfl⟩ (ic_sum8 trivial (Nat.le_of_ble_eq_true rfl)) (by unfold ic_rm; decide +kernel) ⟨rfl, rfl, rfl⟩ ⟨Nat.le_of_ble_eq_true rfl, Nat.le_of_ble_eq_true rfl⟩ ?_
            refine iw_iload_n (i := 1) (pc' := 77) 1 rfl (by decide +kernel) ?_
            refine iw_iload_n (i := 3) (pc' := 78) 3 rfl (by decide +kernel) ?_
            obtain ⟨v29, hc, hf⟩ := ic_bd hf
            refine iw_callS (pc' := 81) (S0 := [.int v28]) (S1 := [.int v29, .int v28]) (c1 := 0) (s1 := 0) (k := 2) (ct_X9_greater l κ sw μ x1 x3 hc) ms_X9_greater lkm_X9_255 ⟨rfl, rfl⟩ (ic_sum8 ⟨rfl, trivial⟩ (Nat.le_of_ble_eq_true rfl)) (by unfold ic_rm; decide +kernel) ⟨rfl, rfl, rfl⟩ ⟨Nat.le_of_ble_eq_true rfl, Nat.le_of_ble_eq_true rfl⟩ ?_
            refine iw_iload_n (i := 2) (pc' := 82) 2 rfl (by decide +kernel) ?_
            refine iw_iload (i := 4) (pc' := 84) 4 rfl (by decide +kernel) ?_
            obtain ⟨v30, hc, hf⟩ := ic_bd hf
            refine iw_callS (pc' := 87) (S0 := [.int v29, .int v28]) (S1 := [.int v30, .int v29, .int v28]) (c1 := 0) (s1 := 0) (k := 2) (ct_X9_greater l κ sw μ x2 x4 hc) ms_X9_greater lkm_X9_255 ⟨rfl, rfl⟩ (ic_sum8 ⟨rfl, rfl, trivial⟩ (Nat.le_of_ble_eq_true rfl)) (by unfold ic_rm; decide +kernel) ⟨rfl, rfl, rfl⟩ ⟨Nat.le_of_ble_eq_true rfl, Nat.le_of_ble_eq_true rfl⟩ ?_
            obtain ⟨v31, hc, hf⟩ := ic_bd hf
            refine iw_callS (pc' := 90) (S0 := [.int v28]) (S1 := [.int v31, .int v28]) (c1 := 0) (s1 := 0) (k := 2) (ct_X9_lesser l κ sw μ v29 v30 hc) ms_X9_lesser lkm_X9_252 ⟨rfl, rfl⟩ (ic_sum8 ⟨rfl, trivial⟩ (Nat.le_of_ble_eq_true rfl)) (by unfold ic_rm; decide +kernel) ⟨rfl, rfl, rfl⟩ ⟨Nat.le_of_ble_eq_true rfl, Nat.le_of_ble_eq_true rfl⟩ ?_
            refine iw_icmp_ne (off := 38) (tg := 128) (pc' := 93) hf (by decide +kernel) (fun hf => ?_) (fun hf => ?_)
            · refine iw_iload_n (i := 1) (pc' := 129) 1 rfl (by decide +kernel) ?_
              refine iw_iload (i := 4) (pc' := 131) 4 rfl (by decide +kernel) ?_
              refine iw_iadd (pc' := 132) (by decide +kernel) ?_
              refine iw_iload_n (i := 2) (pc' := 133) 2 rfl (by decide +kernel) ?_
              refine iw_isub (pc' := 134) (by decide +kernel) ?_
              refine iw_iload_n (i := 3) (pc' := 135) 3 rfl (by decide +kernel) ?_
              refine iw_isub (pc' := 136) (by decide +kernel) ?_
              refine iw_istore (i := 8) (pc' := 138) (L1 := fun x32 => [(0, ic_rv κ.1 90), (1, .int x1), (2, .int x2), (3, .int x3), (4, .int x4), (5, .int x5), (6, .int v26), (7, .int v27), (8, .int x32)]) hf (fun _ => rfl) (by decide +kernel) (fun x32 hf => ?_)
              refine iw_iload (i := 5) (pc' := 140) 5 rfl (by decide +kernel) ?_
              obtain ⟨q33, hf, hgq33⟩ := ic_bd hf
              have hjq33 : ic_W l κ MX9_game ic_X0 (ic_Z κ MX9_game (some (.int R)) 106 (ic_rs sw) μ) 172 [] [.int q33] 106 (ic_rs sw) μ 0 0 := by
                have hf := hgq33
                exact iw_ireturn (Option.some.inj hf) rfl rfl (by decide +kernel)
              refine iw_if_ne (off := 17) (tg := 157) (pc' := 143) hf (by decide +kernel) (fun hf => ?_) (fun hf => ?_)
              · refine iw_iload_n (i := 1) (pc' := 158) 1 rfl (by decide +kernel) ?_
                refine iw_iload (i := 4) (pc' := 160) 4 rfl (by decide +kernel) ?_
                refine iw_imul (pc' := 161) (by decide +kernel) ?_
                refine iw_iload_n (i := 2) (pc' := 162) 2 rfl (by decide +kernel) ?_
                refine iw_iload_n (i := 3) (pc' := 163) 3 rfl (by decide +kernel) ?_
                refine iw_imul (pc' := 164) (by decide +kernel) ?_
                refine iw_isub (pc' := 165) (by decide +kernel) ?_
                refine iw_sipush (i := 1000) (v := (1000 : Int32)) (pc' := 168) (by decide +kernel) ?_
                refine iw_imul (pc' := 169) (by decide +kernel) ?_
                refine iw_iload (i := 8) (pc' := 171) 8 rfl (by decide +kernel) ?_
                refine iw_idiv (pc' := 172) hf (by decide +kernel) (fun hf => ?_)
                obtain rfl := Option.some.inj hf
                exact iw_sub [] rfl hjq33
              · refine iw_iload (i := 4) (pc' := 145) 4 rfl (by decide +kernel) ?_
                refine iw_iload_n (i := 3) (pc' := 146) 3 rfl (by decide +kernel) ?_
                refine iw_isub (pc' := 147) (by decide +kernel) ?_
                refine iw_ldc_w (pc' := 150) lkc_X9_258 (by decide +kernel) ?_
                refine iw_imul (pc' := 151) (by decide +kernel) ?_
                refine iw_iload (i := 8) (pc' := 153) 8 rfl (by decide +kernel) ?_
                refine iw_idiv (pc' := 154) hf (by decide +kernel) (fun hf => ?_)
                refine iw_goto (off := 18) (pc' := 172) (by decide +kernel) ?_
                obtain rfl := Option.some.inj hf
                exact iw_sub [] rfl hjq33
            · refine iw_iload (i := 5) (pc' := 95) 5 rfl (by decide +kernel) ?_
              refine iw_iconst (i := 1) (v := (1 : Int32)) (pc' := 96) (by decide +kernel) ?_
              obtain ⟨q34, hf, hgq34⟩ := ic_bd hf
              have hjq34 : ic_W l κ MX9_game ic_X0 (ic_Z κ MX9_game (some (.int R)) 106 (ic_rs sw) μ) 127 [] [.int q34] 106 (ic_rs sw) μ 0 0 := by
                have hf := hgq34
                exact iw_ireturn (Option.some.inj hf) rfl rfl (by decide +kernel)
              refine iw_icmp_ne (off := 17) (tg := 113) (pc' := 99) hf (by decide +kernel) (fun hf => ?_) (fun hf => ?_)
              · refine iw_iload (i := 6) (pc' := 115) 6 rfl (by decide +kernel) ?_
                refine iw_iload (i := 7) (pc' := 117) 7 rfl (by decide +kernel) ?_
                refine iw_icmp_lt (off := 9) (tg := 126) (pc' := 120) hf (by decide +kernel) (fun hf => ?_) (fun hf => ?_)
                · refine iw_iconst (i := 0) (v := (0 : Int32)) (pc' := 127) (by decide +kernel) ?_
                  obtain rfl := Option.some.inj hf
                  exact iw_sub [] rfl hjq34
                · refine iw_ldc_w (pc' := 123) lkc_X9_258 (by decide +kernel) ?_
                  refine iw_goto (off := 4) (pc' := 127) (by decide +kernel) ?_
                  obtain rfl := Option.some.inj hf
                  exact iw_sub [] rfl hjq34
              · refine iw_sipush (i := 1000) (v := (1000 : Int32)) (pc' := 102) (by decide +kernel) ?_
                refine iw_iload (i := 6) (pc' := 104) 6 rfl (by decide +kernel) ?_
                refine iw_iload (i := 7) (pc' := 106) 7 rfl (by decide +kernel) ?_
                obtain ⟨v35, hc, hf⟩ := ic_bd hf
                refine iw_callS (pc' := 109) (S0 := [.int (1000 : Int32)]) (S1 := [.int v35, .int (1000 : Int32)]) (c1 := 0) (s1 := 0) (k := 2) (ct_X9_greater l κ sw μ v26 v27 hc) ms_X9_greater lkm_X9_255 ⟨rfl, rfl⟩ (ic_sum8 ⟨rfl, trivial⟩ (Nat.le_of_ble_eq_true rfl)) (by unfold ic_rm; decide +kernel) ⟨rfl, rfl, rfl⟩ ⟨Nat.le_of_ble_eq_true rfl, Nat.le_of_ble_eq_true rfl⟩ ?_
                refine iw_imul (pc' := 110) (by decide +kernel) ?_
                refine iw_goto (off := 17) (pc' := 127) (by decide +kernel) ?_
                obtain rfl := Option.some.inj hf
                exact iw_sub [] rfl hjq34
          · refine iw_ldc (pc' := 53) lkc_X9_67 (by decide +kernel) ?_
            exact iw_ireturn (Option.some.inj hf) rfl rfl (by decide +kernel)
set_option maxRecDepth 100000 in
set_option maxHeartbeats 4000000 in
theorem lpX9_tolls_45_ok (l : Launch) (κ : ic_K) (sw : Nat) (μ : ic_M) (x1_ : Int32) (x2_ : Int32) (x3_ : Int32) (x4_ : Int32) {Z : State → List Frame → Array Value → State → Prop} {R : Int32} (hk : ic_W l κ MX9_tolls ic_X0 Z 94 [(0, ic_rv κ.1 90), (1, .int x1_), (2, .int x2_), (3, .int x3_), (4, .int x4_), (5, .int R)] [] 106 (ic_rs sw) μ 0 0) : ∀ (fu : Nat) (y5_ : Int32) (y6_ : Int32), lpX9_tolls_45 μ x1_ x2_ x3_ x4_ fu y5_ y6_ = some R → ic_W l κ MX9_tolls ic_X0 Z 45 [(0, ic_rv κ.1 90), (1, .int x1_), (2, .int x2_), (3, .int x3_), (4, .int x4_), (5, .int y5_), (6, .int y6_)] [] 106 (ic_rs sw) μ 0 0 := by
  intro fu
  induction fu with
  | zero =>
    intro y5_ y6_ hf
    exact absurd hf (by simp [lpX9_tolls_45])
  | succ fu ih =>
    intro y5_ y6_ hf
    rw [lpX9_tolls_45] at hf
    refine iw_iload (i := 6) (pc' := 47) 6 rfl (by decide +kernel) ?_
    refine iw_aload_n (i := 0) (pc' := 48) 0 rfl (by decide +kernel) ?_
    refine iw_getr (pc' := 51) (q := 92) ic_fk9 cO_90 rfl lkf_X9_17 (by decide +kernel) ?_
    refine iw_iconst (i := 0) (v := (0 : Int32)) (pc' := 52) (by decide +kernel) ?_
    refine iw_iald (pc' := 53) hf (fun _ => cI_92) (by decide +kernel) (fun v24 hf => ?_)
    refine iw_icmp_ge (off := 41) (tg := 94) (pc' := 56) hf (by decide +kernel) (fun hf => ?_) (fun hf => ?_)
    · obtain rfl := Option.some.inj hf
      exact iw_sub [0, 1, 2, 3, 4, 5] rfl hk
    · refine iw_iload (i := 5) (pc' := 58) 5 rfl (by decide +kernel) ?_
      obtain ⟨q25, hf, hgq25⟩ := ic_bd hf
      have hjq25 : ic_W l κ MX9_tolls ic_X0 Z 86 [(0, ic_rv κ.1 90), (1, .int x1_), (2, .int x2_), (3, .int x3_), (4, .int x4_), (6, .int y6_)] [.int q25] 106 (ic_rs sw) μ 0 0 := by
        have hf := hgq25
        refine iw_istore0 (i := 5) (pc' := 88) (L' := [(0, ic_rv κ.1 90), (1, .int x1_), (2, .int x2_), (3, .int x3_), (4, .int x4_), (5, .int q25), (6, .int y6_)]) rfl (by decide +kernel) ?_
        refine iw_iinc (i := 6) (d := 1) (pc' := 91) (v := (1 : Int32)) (L1 := fun x28 => [(0, ic_rv κ.1 90), (1, .int x1_), (2, .int x2_), (3, .int x3_), (4, .int x4_), (5, .int q25), (6, .int x28)]) hf 6 rfl (fun _ => rfl) (by decide +kernel) (fun x28 hf => ?_)
        refine iw_goto (off := (-46)) (pc' := 45) (by decide +kernel) ?_
        exact iw_sub [0, 1, 2, 3, 4, 5, 6] rfl (ih _ _ hf)
      refine iw_if_eq (off := 27) (tg := 85) (pc' := 61) hf (by decide +kernel) (fun hf => ?_) (fun hf => ?_)
      · refine iw_iconst (i := 0) (v := (0 : Int32)) (pc' := 86) (by decide +kernel) ?_
        obtain rfl := Option.some.inj hf
        exact iw_sub [0, 1, 2, 3, 4, 6] rfl hjq25
      · refine iw_aload_n (i := 0) (pc' := 62) 0 rfl (by decide +kernel) ?_
        refine iw_getr (pc' := 65) (q := 98) ic_fk9 cO_90 rfl lkf_X9_35 (by decide +kernel) ?_
        refine iw_iload (i := 4) (pc' := 67) 4 rfl (by decide +kernel) ?_
        refine iw_aload_n (i := 0) (pc' := 68) 0 rfl (by decide +kernel) ?_
        refine iw_getr (pc' := 71) (q := 92) ic_fk9 cO_90 rfl lkf_X9_17 (by decide +kernel) ?_
        refine iw_iconst (i := 0) (v := (0 : Int32)) (pc' := 72) (by decide +kernel) ?_
        refine iw_iald (pc' := 73) hf (fun _ => cI_92) (by decide +kernel) (fun v26 hf => ?_)
        refine iw_imul (pc' := 74) (by decide +kernel) ?_
        refine iw_iload (i := 6) (pc' := 76) 6 rfl (by decide +kernel) ?_
        refine iw_iadd (pc' := 77) (by decide +kernel) ?_
        refine iw_iald (pc' := 78) hf (fun _ => cI_98) (by decide +kernel) (fun v27 hf => ?_)
        refine iw_if_ne (off := 7) (tg := 85) (pc' := 81) hf (by decide +kernel) (fun hf => ?_) (fun hf => ?_)
        · refine iw_iconst (i := 0) (v := (0 : Int32)) (pc' := 86) (by decide +kernel) ?_
          obtain rfl := Option.some.inj hf
          exact iw_sub [0, 1, 2, 3, 4, 6] rfl hjq25
        · refine iw_iconst (i := 1) (v := (1 : Int32)) (pc' := 82) (by decide +kernel) ?_
          refine iw_goto (off := 4) (pc' := 86) (by decide +kernel) ?_
          obtain rfl := Option.some.inj hf
          exact iw_sub [0, 1, 2, 3, 4, 6] rfl hjq25
set_option maxRecDepth 100000 in
set_option maxHeartbeats 4000000 in
theorem lpX9_tolls_28_ok (l : Launch) (κ : ic_K) (sw : Nat) (μ : ic_M) (x1_ : Int32) (x2_ : Int32) {Z : State → List Frame → Array Value → State → Prop} {R : Int32} (hk : ic_W l κ MX9_tolls ic_X0 Z 113 [(0, ic_rv κ.1 90), (1, .int x1_), (2, .int x2_), (3, .int R)] [] 106 (ic_rs sw) μ 0 0) : ∀ (fu : Nat) (y3_ : Int32) (y4_ : Int32), lpX9_tolls_28 μ x1_ x2_ fu y3_ y4_ = some R → ic_W l κ MX9_tolls ic_X0 Z 28 [(0, ic_rv κ.1 90), (1, .int x1_), (2, .int x2_), (3, .int y3_), (4, .int y4_)] [] 106 (ic_rs sw) μ 0 0 := by
  intro fu
  induction fu with
  | zero =>
    intro y3_ y4_ hf
    exact absurd hf (by simp [lpX9_tolls_28])
  | succ fu ih =>
    intro y3_ y4_ hf
    rw [lpX9_tolls_28] at hf
    refine iw_iload (i := 4) (pc' := 30) 4 rfl (by decide +kernel) ?_
    refine iw_aload_n (i := 0) (pc' := 31) 0 rfl (by decide +kernel) ?_
    refine iw_getr (pc' := 34) (q := 92) ic_fk9 cO_90 rfl lkf_X9_17 (by decide +kernel) ?_
    refine iw_iconst (i := 1) (v := (1 : Int32)) (pc' := 35) (by decide +kernel) ?_
    refine iw_iald (pc' := 36) hf (fun _ => cI_92) (by decide +kernel) (fun v23 hf => ?_)
    refine iw_icmp_ge (off := 77) (tg := 113) (pc' := 39) hf (by decide +kernel) (fun hf => ?_) (fun hf => ?_)
    · obtain rfl := Option.some.inj hf
      exact iw_sub [0, 1, 2, 3] rfl hk
    · refine iw_iconst (i := 1) (v := (1 : Int32)) (pc' := 40) (by decide +kernel) ?_
      refine iw_istore0 (i := 5) (pc' := 42) (L' := [(0, ic_rv κ.1 90), (1, .int x1_), (2, .int x2_), (3, .int y3_), (4, .int y4_), (5, .int (1 : Int32))]) rfl (by decide +kernel) ?_
      refine iw_iconst (i := 0) (v := (0 : Int32)) (pc' := 43) (by decide +kernel) ?_
      refine iw_istore0 (i := 6) (pc' := 45) (L' := [(0, ic_rv κ.1 90), (1, .int x1_), (2, .int x2_), (3, .int y3_), (4, .int y4_), (5, .int (1 : Int32)), (6, .int (0 : Int32))]) rfl (by decide +kernel) ?_
      obtain ⟨q29, hf, hgq29⟩ := ic_bd hf
      have hjq29 : ic_W l κ MX9_tolls ic_X0 Z 94 [(0, ic_rv κ.1 90), (1, .int x1_), (2, .int x2_), (3, .int y3_), (4, .int y4_), (5, .int q29)] [] 106 (ic_rs sw) μ 0 0 := by
        have hf := hgq29
        refine iw_iload_n (i := 3) (pc' := 95) 3 rfl (by decide +kernel) ?_
        refine iw_iload (i := 5) (pc' := 97) 5 rfl (by decide +kernel) ?_
        obtain ⟨q30, hf, hgq30⟩ := ic_bd hf
        have hjq30 : ic_W l κ MX9_tolls ic_X0 Z 105 [(0, ic_rv κ.1 90), (1, .int x1_), (2, .int x2_), (4, .int y4_)] [.int q30, .int y3_] 106 (ic_rs sw) μ 0 0 := by
          have hf := hgq30
          refine iw_iadd (pc' := 106) (by decide +kernel) ?_
          refine iw_istore_n (i := 3) (pc' := 107) (L1 := fun x31 => [(0, ic_rv κ.1 90), (1, .int x1_), (2, .int x2_), (3, .int x31), (4, .int y4_)]) hf (fun _ => rfl) (by decide +kernel) (fun x31 hf => ?_)
          refine iw_iinc (i := 4) (d := 1) (pc' := 110) (v := (1 : Int32)) (L1 := fun x32 => [(0, ic_rv κ.1 90), (1, .int x1_), (2, .int x2_), (3, .int x31), (4, .int x32)]) hf 4 rfl (fun _ => rfl) (by decide +kernel) (fun x32 hf => ?_)
          refine iw_goto (off := (-82)) (pc' := 28) (by decide +kernel) ?_
          exact iw_sub [0, 1, 2, 3, 4] rfl (ih _ _ hf)
        refine iw_if_eq (off := 7) (tg := 104) (pc' := 100) hf (by decide +kernel) (fun hf => ?_) (fun hf => ?_)
        · refine iw_iconst (i := 0) (v := (0 : Int32)) (pc' := 105) (by decide +kernel) ?_
          obtain rfl := Option.some.inj hf
          exact iw_sub [0, 1, 2, 4] rfl hjq30
        · refine iw_iconst (i := 1) (v := (1 : Int32)) (pc' := 101) (by decide +kernel) ?_
          refine iw_goto (off := 4) (pc' := 105) (by decide +kernel) ?_
          obtain rfl := Option.some.inj hf
          exact iw_sub [0, 1, 2, 4] rfl hjq30
      exact iw_sub [0, 1, 2, 3, 4, 5, 6] rfl (lpX9_tolls_45_ok l κ sw μ x1_ x2_ y3_ y4_ hjq29 1000 (1 : Int32) (0 : Int32) hf)
set_option maxRecDepth 100000 in
set_option maxHeartbeats 4000000 in
theorem ct_X9_tolls (l : Launch) (κ : ic_K) (sw : Nat) (μ : ic_M) (x1 : Int32) (x2 : Int32) {R : Int32} (hf : fX9_tolls μ x1 x2 = some R) : ic_C l κ MX9_tolls [ic_rv κ.1 90, .int x1, .int x2] 106 (ic_rs sw) μ (some (.int R)) 106 (ic_rs sw) μ := by
  refine ic_C.of (L := [(0, ic_rv κ.1 90), (1, .int x1), (2, .int x2)]) ⟨ic_cat _ _, rfl, rfl, trivial⟩ ⟨by decide +kernel, Nat.le_of_ble_eq_true rfl⟩ rfl ?_
  unfold fX9_tolls at hf
  refine iw_iload_n (i := 1) (pc' := 1) 1 rfl (by decide +kernel) ?_
  refine iw_iconst (i := 0) (v := (0 : Int32)) (pc' := 2) (by decide +kernel) ?_
  refine iw_bipush (i := 99) (v := (99 : Int32)) (pc' := 4) (by decide +kernel) ?_
  obtain ⟨v21, hc, hf⟩ := ic_bd hf
  refine iw_callS (pc' := 7) (S0 := []) (S1 := [.int v21]) (c1 := 0) (s1 := 0) (k := 3) (ct_X9_in l κ sw μ x1 (0 : Int32) (99 : Int32) hc) ms_X9_in lkm_X9_63 ⟨rfl, rfl⟩ (ic_sum8 trivial (Nat.le_of_ble_eq_true rfl)) (by unfold ic_rm; decide +kernel) ⟨rfl, rfl, rfl⟩ ⟨Nat.le_of_ble_eq_true rfl, Nat.le_of_ble_eq_true rfl⟩ ?_
  refine iw_if_eq (off := 13) (tg := 20) (pc' := 10) hf (by decide +kernel) (fun hf => ?_) (fun hf => ?_)
  · refine iw_ldc (pc' := 22) lkc_X9_67 (by decide +kernel) ?_
    exact iw_ireturn (Option.some.inj hf) rfl rfl (by decide +kernel)
  · refine iw_iload_n (i := 2) (pc' := 11) 2 rfl (by decide +kernel) ?_
    refine iw_iconst (i := 0) (v := (0 : Int32)) (pc' := 12) (by decide +kernel) ?_
    refine iw_bipush (i := 99) (v := (99 : Int32)) (pc' := 14) (by decide +kernel) ?_
    obtain ⟨v22, hc, hf⟩ := ic_bd hf
    refine iw_callS (pc' := 17) (S0 := []) (S1 := [.int v22]) (c1 := 0) (s1 := 0) (k := 3) (ct_X9_in l κ sw μ x2 (0 : Int32) (99 : Int32) hc) ms_X9_in lkm_X9_63 ⟨rfl, rfl⟩ (ic_sum8 trivial (Nat.le_of_ble_eq_true rfl)) (by unfold ic_rm; decide +kernel) ⟨rfl, rfl, rfl⟩ ⟨Nat.le_of_ble_eq_true rfl, Nat.le_of_ble_eq_true rfl⟩ ?_
    refine iw_if_ne (off := 6) (tg := 23) (pc' := 20) hf (by decide +kernel) (fun hf => ?_) (fun hf => ?_)
    · refine iw_iconst (i := 0) (v := (0 : Int32)) (pc' := 24) (by decide +kernel) ?_
      refine iw_istore_n0 (i := 3) (pc' := 25) (L' := [(0, ic_rv κ.1 90), (1, .int x1), (2, .int x2), (3, .int (0 : Int32))]) rfl (by decide +kernel) ?_
      refine iw_iconst (i := 0) (v := (0 : Int32)) (pc' := 26) (by decide +kernel) ?_
      refine iw_istore0 (i := 4) (pc' := 28) (L' := [(0, ic_rv κ.1 90), (1, .int x1), (2, .int x2), (3, .int (0 : Int32)), (4, .int (0 : Int32))]) rfl (by decide +kernel) ?_
      obtain ⟨q33, hf, hgq33⟩ := ic_bd hf
      have hjq33 : ic_W l κ MX9_tolls ic_X0 (ic_Z κ MX9_tolls (some (.int R)) 106 (ic_rs sw) μ) 113 [(0, ic_rv κ.1 90), (1, .int x1), (2, .int x2), (3, .int q33)] [] 106 (ic_rs sw) μ 0 0 := by
        have hf := hgq33
        refine iw_aload_n (i := 0) (pc' := 114) 0 rfl (by decide +kernel) ?_
        refine iw_getr (pc' := 117) (q := 98) ic_fk9 cO_90 rfl lkf_X9_35 (by decide +kernel) ?_
        refine iw_bipush (i := 25) (v := (25 : Int32)) (pc' := 119) (by decide +kernel) ?_
        refine iw_iald (pc' := 120) hf (fun _ => cI_98) (by decide +kernel) (fun v34 hf => ?_)
        refine iw_iconst (i := (-1)) (v := (-1 : Int32)) (pc' := 121) (by decide +kernel) ?_
        obtain ⟨q35, hf, hgq35⟩ := ic_bd hf
        have hjq35 : ic_W l κ MX9_tolls ic_X0 (ic_Z κ MX9_tolls (some (.int R)) 106 (ic_rs sw) μ) 133 [] [.int q35] 106 (ic_rs sw) μ 0 0 := by
          have hf := hgq35
          exact iw_ireturn (Option.some.inj hf) rfl rfl (by decide +kernel)
        refine iw_icmp_ne (off := 7) (tg := 128) (pc' := 124) hf (by decide +kernel) (fun hf => ?_) (fun hf => ?_)
        · refine iw_iload_n (i := 1) (pc' := 129) 1 rfl (by decide +kernel) ?_
          refine iw_iload_n (i := 2) (pc' := 130) 2 rfl (by decide +kernel) ?_
          refine iw_imul (pc' := 131) (by decide +kernel) ?_
          refine iw_iload_n (i := 3) (pc' := 132) 3 rfl (by decide +kernel) ?_
          refine iw_imul (pc' := 133) (by decide +kernel) ?_
          obtain rfl := Option.some.inj hf
          exact iw_sub [] rfl hjq35
        · refine iw_iconst (i := 0) (v := (0 : Int32)) (pc' := 125) (by decide +kernel) ?_
          refine iw_goto (off := 8) (pc' := 133) (by decide +kernel) ?_
          obtain rfl := Option.some.inj hf
          exact iw_sub [] rfl hjq35
      exact iw_sub [0, 1, 2, 3, 4] rfl (lpX9_tolls_28_ok l κ sw μ x1 x2 hjq33 1000 (0 : Int32) (0 : Int32) hf)
    · refine iw_ldc (pc' := 22) lkc_X9_67 (by decide +kernel) ?_
      exact iw_ireturn (Option.some.inj hf) rfl rfl (by decide +kernel)
set_option maxRecDepth 100000 in
set_option maxHeartbeats 4000000 in
theorem lpX9_thaw_30_ok (l : Launch) (κ : ic_K) (sw : Nat) (μ : ic_M) (x1_ : Int32) (x2_ : Int32) {Z : State → List Frame → Array Value → State → Prop} {R : Int32} (hk : ic_W l κ MX9_thaw ic_X0 Z 52 [(3, .int R)] [] 106 (ic_rs sw) μ 0 0) : ∀ (fu : Nat) (y3_ : Int32) (y4_ : Int32), lpX9_thaw_30 μ x1_ x2_ fu y3_ y4_ = some R → ic_W l κ MX9_thaw ic_X0 Z 30 [(1, .int x1_), (2, .int x2_), (3, .int y3_), (4, .int y4_)] [] 106 (ic_rs sw) μ 0 0 := by
  intro fu
  induction fu with
  | zero =>
    intro y3_ y4_ hf
    exact absurd hf (by simp [lpX9_thaw_30])
  | succ fu ih =>
    intro y3_ y4_ hf
    rw [lpX9_thaw_30] at hf
    refine iw_iload (i := 4) (pc' := 32) 3 rfl (by decide +kernel) ?_
    refine iw_iload_n (i := 1) (pc' := 33) 0 rfl (by decide +kernel) ?_
    refine iw_icmp_ge (off := 19) (tg := 52) (pc' := 36) hf (by decide +kernel) (fun hf => ?_) (fun hf => ?_)
    · obtain rfl := Option.some.inj hf
      exact iw_sub [2] rfl hk
    · refine iw_iload_n (i := 3) (pc' := 37) 2 rfl (by decide +kernel) ?_
      refine iw_bipush (i := 100) (v := (100 : Int32)) (pc' := 39) (by decide +kernel) ?_
      refine iw_iload_n (i := 2) (pc' := 40) 1 rfl (by decide +kernel) ?_
      refine iw_isub (pc' := 41) (by decide +kernel) ?_
      refine iw_imul (pc' := 42) (by decide +kernel) ?_
      refine iw_bipush (i := 100) (v := (100 : Int32)) (pc' := 44) (by decide +kernel) ?_
      refine iw_idiv (pc' := 45) hf (by decide +kernel) (fun hf => ?_)
      refine iw_istore_n (i := 3) (pc' := 46) (L1 := fun x23 => [(1, .int x1_), (2, .int x2_), (3, .int x23), (4, .int y4_)]) hf (fun _ => rfl) (by decide +kernel) (fun x23 hf => ?_)
      refine iw_iinc (i := 4) (d := 1) (pc' := 49) (v := (1 : Int32)) (L1 := fun x24 => [(1, .int x1_), (2, .int x2_), (3, .int x23), (4, .int x24)]) hf 3 rfl (fun _ => rfl) (by decide +kernel) (fun x24 hf => ?_)
      refine iw_goto (off := (-19)) (pc' := 30) (by decide +kernel) ?_
      exact iw_sub [0, 1, 2, 3] rfl (ih _ _ hf)
set_option maxRecDepth 100000 in
set_option maxHeartbeats 4000000 in
theorem ct_X9_thaw (l : Launch) (κ : ic_K) (sw : Nat) (μ : ic_M) (x1 : Int32) (x2 : Int32) {R : Int32} (hf : fX9_thaw μ x1 x2 = some R) : ic_C l κ MX9_thaw [ic_rv κ.1 90, .int x1, .int x2] 106 (ic_rs sw) μ (some (.int R)) 106 (ic_rs sw) μ := by
  refine ic_C.of (L := [(0, ic_rv κ.1 90), (1, .int x1), (2, .int x2)]) ⟨ic_cat _ _, rfl, rfl, trivial⟩ ⟨by decide +kernel, Nat.le_of_ble_eq_true rfl⟩ rfl ?_
  unfold fX9_thaw at hf
  refine iw_iload_n (i := 1) (pc' := 1) 1 rfl (by decide +kernel) ?_
  refine iw_iconst (i := 0) (v := (0 : Int32)) (pc' := 2) (by decide +kernel) ?_
  refine iw_bipush (i := 60) (v := (60 : Int32)) (pc' := 4) (by decide +kernel) ?_
  obtain ⟨v21, hc, hf⟩ := ic_bd hf
  refine iw_callS (pc' := 7) (S0 := []) (S1 := [.int v21]) (c1 := 0) (s1 := 0) (k := 3) (ct_X9_in l κ sw μ x1 (0 : Int32) (60 : Int32) hc) ms_X9_in lkm_X9_63 ⟨rfl, rfl⟩ (ic_sum8 trivial (Nat.le_of_ble_eq_true rfl)) (by unfold ic_rm; decide +kernel) ⟨rfl, rfl, rfl⟩ ⟨Nat.le_of_ble_eq_true rfl, Nat.le_of_ble_eq_true rfl⟩ ?_
  refine iw_if_eq (off := 13) (tg := 20) (pc' := 10) hf (by decide +kernel) (fun hf => ?_) (fun hf => ?_)
  · refine iw_ldc (pc' := 22) lkc_X9_67 (by decide +kernel) ?_
    exact iw_ireturn (Option.some.inj hf) rfl rfl (by decide +kernel)
  · refine iw_iload_n (i := 2) (pc' := 11) 2 rfl (by decide +kernel) ?_
    refine iw_iconst (i := 0) (v := (0 : Int32)) (pc' := 12) (by decide +kernel) ?_
    refine iw_bipush (i := 100) (v := (100 : Int32)) (pc' := 14) (by decide +kernel) ?_
    obtain ⟨v22, hc, hf⟩ := ic_bd hf
    refine iw_callS (pc' := 17) (S0 := []) (S1 := [.int v22]) (c1 := 0) (s1 := 0) (k := 3) (ct_X9_in l κ sw μ x2 (0 : Int32) (100 : Int32) hc) ms_X9_in lkm_X9_63 ⟨rfl, rfl⟩ (ic_sum8 trivial (Nat.le_of_ble_eq_true rfl)) (by unfold ic_rm; decide +kernel) ⟨rfl, rfl, rfl⟩ ⟨Nat.le_of_ble_eq_true rfl, Nat.le_of_ble_eq_true rfl⟩ ?_
    refine iw_if_ne (off := 6) (tg := 23) (pc' := 20) hf (by decide +kernel) (fun hf => ?_) (fun hf => ?_)
    · refine iw_ldc_w (pc' := 26) lkc_X9_258 (by decide +kernel) ?_
      refine iw_istore_n0 (i := 3) (pc' := 27) (L' := [(0, ic_rv κ.1 90), (1, .int x1), (2, .int x2), (3, .int (1000000 : Int32))]) rfl (by decide +kernel) ?_
      refine iw_iconst (i := 0) (v := (0 : Int32)) (pc' := 28) (by decide +kernel) ?_
      refine iw_istore0 (i := 4) (pc' := 30) (L' := [(0, ic_rv κ.1 90), (1, .int x1), (2, .int x2), (3, .int (1000000 : Int32)), (4, .int (0 : Int32))]) rfl (by decide +kernel) ?_
      obtain ⟨q25, hf, hgq25⟩ := ic_bd hf
      have hjq25 : ic_W l κ MX9_thaw ic_X0 (ic_Z κ MX9_thaw (some (.int R)) 106 (ic_rs sw) μ) 52 [(3, .int q25)] [] 106 (ic_rs sw) μ 0 0 := by
        have hf := hgq25
        refine iw_iload_n (i := 3) (pc' := 53) 0 rfl (by decide +kernel) ?_
        exact iw_ireturn (Option.some.inj hf) rfl rfl (by decide +kernel)
      exact iw_sub [1, 2, 3, 4] rfl (lpX9_thaw_30_ok l κ sw μ x1 x2 hjq25 1000 (1000000 : Int32) (0 : Int32) hf)
    · refine iw_ldc (pc' := 22) lkc_X9_67 (by decide +kernel) ?_
      exact iw_ireturn (Option.some.inj hf) rfl rfl (by decide +kernel)
set_option maxRecDepth 100000 in
set_option maxHeartbeats 4000000 in
theorem ct_X9_see (l : Launch) (κ : ic_K) (sw : Nat) (μ : ic_M) (x1 : Int32) (x2 : Int32) {R : Int32 × ic_M} (hf : fX9_see μ x1 x2 = some R) : ic_C l κ MX9_see [ic_rv κ.1 90, .int x1, .int x2] 106 (ic_rs sw) μ (some (.int R.1)) 106 (ic_rs sw) R.2 := by
  refine ic_C.of (L := [(0, ic_rv κ.1 90), (1, .int x1), (2, .int x2)]) ⟨ic_cat _ _, rfl, rfl, trivial⟩ ⟨by decide +kernel, Nat.le_of_ble_eq_true rfl⟩ rfl ?_
  unfold fX9_see at hf
  refine iw_iload_n (i := 1) (pc' := 1) 1 rfl (by decide +kernel) ?_
  refine iw_iconst (i := 1) (v := (1 : Int32)) (pc' := 2) (by decide +kernel) ?_
  refine iw_bipush (i := 60) (v := (60 : Int32)) (pc' := 4) (by decide +kernel) ?_
  obtain ⟨v21, hc, hf⟩ := ic_bd hf
  refine iw_callS (pc' := 7) (S0 := []) (S1 := [.int v21]) (c1 := 0) (s1 := 0) (k := 3) (ct_X9_in l κ sw μ x1 (1 : Int32) (60 : Int32) hc) ms_X9_in lkm_X9_63 ⟨rfl, rfl⟩ (ic_sum8 trivial (Nat.le_of_ble_eq_true rfl)) (by unfold ic_rm; decide +kernel) ⟨rfl, rfl, rfl⟩ ⟨Nat.le_of_ble_eq_true rfl, Nat.le_of_ble_eq_true rfl⟩ ?_
  refine iw_if_ne (off := 6) (tg := 13) (pc' := 10) hf (by decide +kernel) (fun hf => ?_) (fun hf => ?_)
  · refine iw_aload_n (i := 0) (pc' := 14) 0 rfl (by decide +kernel) ?_
    refine iw_geti (pc' := 17) ic_fk9 cO_90 lkf_X9_126 (by decide +kernel) ?_
    refine iw_bipush (i := 6) (v := (6 : Int32)) (pc' := 19) (by decide +kernel) ?_
    refine iw_icmp_ne (off := 6) (tg := 25) (pc' := 22) hf (by decide +kernel) (fun hf => ?_) (fun hf => ?_)
    · refine iw_aload_n (i := 0) (pc' := 26) 0 rfl (by decide +kernel) ?_
      refine iw_getr (pc' := 29) (q := 104) ic_fk9 cO_90 rfl lkf_X9_54 (by decide +kernel) ?_
      refine iw_iconst (i := 2) (v := (2 : Int32)) (pc' := 30) (by decide +kernel) ?_
      refine iw_aload_n (i := 0) (pc' := 31) 0 rfl (by decide +kernel) ?_
      refine iw_geti (pc' := 34) ic_fk9 cO_90 lkf_X9_126 (by decide +kernel) ?_
      refine iw_imul (pc' := 35) (by decide +kernel) ?_
      refine iw_iload_n (i := 1) (pc' := 36) 1 rfl (by decide +kernel) ?_
      refine iw_iast (pc' := 37) hf (fun _ => cI_104) (by decide +kernel) (fun m22 hf => ?_)
      refine iw_aload_n (i := 0) (pc' := 38) 0 rfl (by decide +kernel) ?_
      refine iw_getr (pc' := 41) (q := 104) ic_fk9 cO_90 rfl lkf_X9_54 (by decide +kernel) ?_
      refine iw_iconst (i := 2) (v := (2 : Int32)) (pc' := 42) (by decide +kernel) ?_
      refine iw_aload_n (i := 0) (pc' := 43) 0 rfl (by decide +kernel) ?_
      refine iw_geti (pc' := 46) ic_fk9 cO_90 lkf_X9_126 (by decide +kernel) ?_
      refine iw_imul (pc' := 47) (by decide +kernel) ?_
      refine iw_iconst (i := 1) (v := (1 : Int32)) (pc' := 48) (by decide +kernel) ?_
      refine iw_iadd (pc' := 49) (by decide +kernel) ?_
      refine iw_iload_n (i := 2) (pc' := 50) 2 rfl (by decide +kernel) ?_
      obtain ⟨q23, hf, hgq23⟩ := ic_bd hf
      have hjq23 : ic_W l κ MX9_see ic_X0 (ic_Z κ MX9_see (some (.int R.1)) 106 (ic_rs sw) R.2) 58 [(0, ic_rv κ.1 90)] [.int q23, .int (((2 : Int32) * (m22 90 18)) + (1 : Int32)), ic_rv κ.1 104] 106 (ic_rs sw) m22 0 0 := by
        have hf := hgq23
        refine iw_iast (pc' := 59) hf (fun _ => cI_104) (by decide +kernel) (fun m24 hf => ?_)
        refine iw_aload_n (i := 0) (pc' := 60) 0 rfl (by decide +kernel) ?_
        refine iw_dup (pc' := 61) (ic_cat _ _) (by decide +kernel) ?_
        refine iw_geti (pc' := 64) ic_fk9 cO_90 lkf_X9_126 (by decide +kernel) ?_
        refine iw_iconst (i := 1) (v := (1 : Int32)) (pc' := 65) (by decide +kernel) ?_
        refine iw_iadd (pc' := 66) (by decide +kernel) ?_
        refine iw_put (pc' := 69) hf ic_fk9 cO_90 lkf_X9_126 (by decide +kernel) (fun m25 hf => ?_)
        refine iw_aload_n (i := 0) (pc' := 70) 0 rfl (by decide +kernel) ?_
        refine iw_geti (pc' := 73) ic_fk9 cO_90 lkf_X9_126 (by decide +kernel) ?_
        exact iw_ireturn (ic_q1 (Option.some.inj hf)) rfl (ic_q2 (Option.some.inj hf)) (by decide +kernel)
      refine iw_if_eq (off := 7) (tg := 57) (pc' := 53) hf (by decide +kernel) (fun hf => ?_) (fun hf => ?_)
      · refine iw_iconst (i := 0) (v := (0 : Int32)) (pc' := 58) (by decide +kernel) ?_
        obtain rfl := Option.some.inj hf
        exact iw_sub [0] rfl hjq23
      · refine iw_iconst (i := 1) (v := (1 : Int32)) (pc' := 54) (by decide +kernel) ?_
        refine iw_goto (off := 4) (pc' := 58) (by decide +kernel) ?_
        obtain rfl := Option.some.inj hf
        exact iw_sub [0] rfl hjq23
    · refine iw_ldc (pc' := 24) lkc_X9_71 (by decide +kernel) ?_
      exact iw_ireturn (ic_q1 (Option.some.inj hf)) rfl (ic_q2 (Option.some.inj hf)) (by decide +kernel)
  · refine iw_ldc (pc' := 12) lkc_X9_67 (by decide +kernel) ?_
    exact iw_ireturn (ic_q1 (Option.some.inj hf)) rfl (ic_q2 (Option.some.inj hf)) (by decide +kernel)
set_option maxRecDepth 100000 in
set_option maxHeartbeats 4000000 in
theorem lpX9_brokeBy_5_ok (l : Launch) (κ : ic_K) (sw : Nat) (μ : ic_M) (x1_ : Int32) (x2_ : Int32) {Z : State → List Frame → Array Value → State → Prop} {R : Int32} (hk : ic_W l κ MX9_brokeBy ic_X0 Z 49 [(0, ic_rv κ.1 90), (2, .int x2_), (3, .int R)] [] 106 (ic_rs sw) μ 0 0) : ∀ (fu : Nat) (y3_ : Int32) (y4_ : Int32), lpX9_brokeBy_5 μ x1_ x2_ fu y3_ y4_ = some R → ic_W l κ MX9_brokeBy ic_X0 Z 5 [(0, ic_rv κ.1 90), (1, .int x1_), (2, .int x2_), (3, .int y3_), (4, .int y4_)] [] 106 (ic_rs sw) μ 0 0 := by
  intro fu
  induction fu with
  | zero =>
    intro y3_ y4_ hf
    exact absurd hf (by simp [lpX9_brokeBy_5])
  | succ fu ih =>
    intro y3_ y4_ hf
    rw [lpX9_brokeBy_5] at hf
    refine iw_iload (i := 4) (pc' := 7) 4 rfl (by decide +kernel) ?_
    refine iw_aload_n (i := 0) (pc' := 8) 0 rfl (by decide +kernel) ?_
    refine iw_getr (pc' := 11) (q := 92) ic_fk9 cO_90 rfl lkf_X9_17 (by decide +kernel) ?_
    refine iw_iconst (i := 3) (v := (3 : Int32)) (pc' := 12) (by decide +kernel) ?_
    refine iw_iald (pc' := 13) hf (fun _ => cI_92) (by decide +kernel) (fun v21 hf => ?_)
    refine iw_icmp_ge (off := 36) (tg := 49) (pc' := 16) hf (by decide +kernel) (fun hf => ?_) (fun hf => ?_)
    · obtain rfl := Option.some.inj hf
      exact iw_sub [0, 2, 3] rfl hk
    · refine iw_iload_n (i := 3) (pc' := 17) 3 rfl (by decide +kernel) ?_
      refine iw_iload_n (i := 1) (pc' := 18) 1 rfl (by decide +kernel) ?_
      refine iw_iload (i := 4) (pc' := 20) 4 rfl (by decide +kernel) ?_
      obtain ⟨v22, hc, hf⟩ := ic_bd hf
      refine iw_callS (pc' := 23) (S0 := [.int y3_]) (S1 := [.int v22, .int y3_]) (c1 := 0) (s1 := 0) (k := 2) (ct_X9_has l κ sw μ x1_ y4_ hc) ms_X9_has lkm_X9_147 ⟨rfl, rfl⟩ (ic_sum8 ⟨rfl, trivial⟩ (Nat.le_of_ble_eq_true rfl)) (by unfold ic_rm; decide +kernel) ⟨rfl, rfl, rfl⟩ ⟨Nat.le_of_ble_eq_true rfl, Nat.le_of_ble_eq_true rfl⟩ ?_
      obtain ⟨q23, hf, hgq23⟩ := ic_bd hf
      have hjq23 : ic_W l κ MX9_brokeBy ic_X0 Z 41 [(0, ic_rv κ.1 90), (1, .int x1_), (2, .int x2_), (4, .int y4_)] [.int q23, .int y3_] 106 (ic_rs sw) μ 0 0 := by
        have hf := hgq23
        refine iw_iadd (pc' := 42) (by decide +kernel) ?_
        refine iw_istore_n (i := 3) (pc' := 43) (L1 := fun x25 => [(0, ic_rv κ.1 90), (1, .int x1_), (2, .int x2_), (3, .int x25), (4, .int y4_)]) hf (fun _ => rfl) (by decide +kernel) (fun x25 hf => ?_)
        refine iw_iinc (i := 4) (d := 1) (pc' := 46) (v := (1 : Int32)) (L1 := fun x26 => [(0, ic_rv κ.1 90), (1, .int x1_), (2, .int x2_), (3, .int x25), (4, .int x26)]) hf 4 rfl (fun _ => rfl) (by decide +kernel) (fun x26 hf => ?_)
        refine iw_goto (off := (-41)) (pc' := 5) (by decide +kernel) ?_
        exact iw_sub [0, 1, 2, 3, 4] rfl (ih _ _ hf)
      refine iw_if_eq (off := 17) (tg := 40) (pc' := 26) hf (by decide +kernel) (fun hf => ?_) (fun hf => ?_)
      · refine iw_iconst (i := 0) (v := (0 : Int32)) (pc' := 41) (by decide +kernel) ?_
        obtain rfl := Option.some.inj hf
        exact iw_sub [0, 1, 2, 4] rfl hjq23
      · refine iw_aload_n (i := 0) (pc' := 27) 0 rfl (by decide +kernel) ?_
        refine iw_getr (pc' := 30) (q := 94) ic_fk9 cO_90 rfl lkf_X9_23 (by decide +kernel) ?_
        refine iw_iconst (i := 2) (v := (2 : Int32)) (pc' := 31) (by decide +kernel) ?_
        refine iw_iload (i := 4) (pc' := 33) 4 rfl (by decide +kernel) ?_
        refine iw_imul (pc' := 34) (by decide +kernel) ?_
        refine iw_iconst (i := 1) (v := (1 : Int32)) (pc' := 35) (by decide +kernel) ?_
        refine iw_iadd (pc' := 36) (by decide +kernel) ?_
        refine iw_iald (pc' := 37) hf (fun _ => cI_94) (by decide +kernel) (fun v24 hf => ?_)
        refine iw_goto (off := 4) (pc' := 41) (by decide +kernel) ?_
        obtain rfl := Option.some.inj hf
        exact iw_sub [0, 1, 2, 4] rfl hjq23
set_option maxRecDepth 100000 in
set_option maxHeartbeats 4000000 in
theorem ct_X9_brokeBy (l : Launch) (κ : ic_K) (sw : Nat) (μ : ic_M) (x1 : Int32) (x2 : Int32) {R : Int32} (hf : fX9_brokeBy μ x1 x2 = some R) : ic_C l κ MX9_brokeBy [ic_rv κ.1 90, .int x1, .int x2] 106 (ic_rs sw) μ (some (.int R)) 106 (ic_rs sw) μ := by
  refine ic_C.of (L := [(0, ic_rv κ.1 90), (1, .int x1), (2, .int x2)]) ⟨ic_cat _ _, rfl, rfl, trivial⟩ ⟨by decide +kernel, Nat.le_of_ble_eq_true rfl⟩ rfl ?_
  unfold fX9_brokeBy at hf
  refine iw_iconst (i := 0) (v := (0 : Int32)) (pc' := 1) (by decide +kernel) ?_
  refine iw_istore_n0 (i := 3) (pc' := 2) (L' := [(0, ic_rv κ.1 90), (1, .int x1), (2, .int x2), (3, .int (0 : Int32))]) rfl (by decide +kernel) ?_
  refine iw_iconst (i := 0) (v := (0 : Int32)) (pc' := 3) (by decide +kernel) ?_
  refine iw_istore0 (i := 4) (pc' := 5) (L' := [(0, ic_rv κ.1 90), (1, .int x1), (2, .int x2), (3, .int (0 : Int32)), (4, .int (0 : Int32))]) rfl (by decide +kernel) ?_
  obtain ⟨q27, hf, hgq27⟩ := ic_bd hf
  have hjq27 : ic_W l κ MX9_brokeBy ic_X0 (ic_Z κ MX9_brokeBy (some (.int R)) 106 (ic_rs sw) μ) 49 [(0, ic_rv κ.1 90), (2, .int x2), (3, .int q27)] [] 106 (ic_rs sw) μ 0 0 := by
    have hf := hgq27
    refine iw_iload_n (i := 3) (pc' := 50) 2 rfl (by decide +kernel) ?_
    refine iw_aload_n (i := 0) (pc' := 51) 0 rfl (by decide +kernel) ?_
    refine iw_getr (pc' := 54) (q := 92) ic_fk9 cO_90 rfl lkf_X9_17 (by decide +kernel) ?_
    refine iw_iconst (i := 2) (v := (2 : Int32)) (pc' := 55) (by decide +kernel) ?_
    refine iw_iald (pc' := 56) hf (fun _ => cI_92) (by decide +kernel) (fun v28 hf => ?_)
    refine iw_iload_n (i := 2) (pc' := 57) 1 rfl (by decide +kernel) ?_
    refine iw_imul (pc' := 58) (by decide +kernel) ?_
    obtain ⟨q29, hf, hgq29⟩ := ic_bd hf
    have hjq29 : ic_W l κ MX9_brokeBy ic_X0 (ic_Z κ MX9_brokeBy (some (.int R)) 106 (ic_rs sw) μ) 66 [] [.int q29] 106 (ic_rs sw) μ 0 0 := by
      have hf := hgq29
      exact iw_ireturn (Option.some.inj hf) rfl rfl (by decide +kernel)
    refine iw_icmp_le (off := 7) (tg := 65) (pc' := 61) hf (by decide +kernel) (fun hf => ?_) (fun hf => ?_)
    · refine iw_iconst (i := 0) (v := (0 : Int32)) (pc' := 66) (by decide +kernel) ?_
      obtain rfl := Option.some.inj hf
      exact iw_sub [] rfl hjq29
    · refine iw_iconst (i := 1) (v := (1 : Int32)) (pc' := 62) (by decide +kernel) ?_
      refine iw_goto (off := 4) (pc' := 66) (by decide +kernel) ?_
      obtain rfl := Option.some.inj hf
      exact iw_sub [] rfl hjq29
  exact iw_sub [0, 1, 2, 3, 4] rfl (lpX9_brokeBy_5_ok l κ sw μ x1 x2 hjq27 1000 (0 : Int32) (0 : Int32) hf)
set_option maxRecDepth 100000 in
set_option maxHeartbeats 4000000 in
theorem lpX9_isSo_4_ok (l : Launch) (κ : ic_K) (sw : Nat) (μ : ic_M) (x1_ : Int32) {Z : State → List Frame → Array Value → State → Prop} {R : Int32} (hk : ic_W l κ MX9_isSo ic_X0 Z 54 [(2, .int R)] [] 106 (ic_rs sw) μ 0 0) : ∀ (fu : Nat) (y2_ : Int32) (y3_ : Int32), lpX9_isSo_4 μ x1_ fu y2_ y3_ = some R → ic_W l κ MX9_isSo ic_X0 Z 4 [(0, ic_rv κ.1 90), (1, .int x1_), (2, .int y2_), (3, .int y3_)] [] 106 (ic_rs sw) μ 0 0 := by
  intro fu
  induction fu with
  | zero =>
    intro y2_ y3_ hf
    exact absurd hf (by simp [lpX9_isSo_4])
  | succ fu ih =>
    intro y2_ y3_ hf
    rw [lpX9_isSo_4] at hf
    refine iw_iload_n (i := 3) (pc' := 5) 3 rfl (by decide +kernel) ?_
    refine iw_aload_n (i := 0) (pc' := 6) 0 rfl (by decide +kernel) ?_
    refine iw_geti (pc' := 9) ic_fk9 cO_90 lkf_X9_126 (by decide +kernel) ?_
    refine iw_icmp_ge (off := 45) (tg := 54) (pc' := 12) hf (by decide +kernel) (fun hf => ?_) (fun hf => ?_)
    · obtain rfl := Option.some.inj hf
      exact iw_sub [2] rfl hk
    · refine iw_iload_n (i := 2) (pc' := 13) 2 rfl (by decide +kernel) ?_
      obtain ⟨q21, hf, hgq21⟩ := ic_bd hf
      have hjq21 : ic_W l κ MX9_isSo ic_X0 Z 47 [(0, ic_rv κ.1 90), (1, .int x1_), (3, .int y3_)] [.int q21] 106 (ic_rs sw) μ 0 0 := by
        have hf := hgq21
        refine iw_istore_n0 (i := 2) (pc' := 48) (L' := [(0, ic_rv κ.1 90), (1, .int x1_), (2, .int q21), (3, .int y3_)]) rfl (by decide +kernel) ?_
        refine iw_iinc (i := 3) (d := 1) (pc' := 51) (v := (1 : Int32)) (L1 := fun x25 => [(0, ic_rv κ.1 90), (1, .int x1_), (2, .int q21), (3, .int x25)]) hf 3 rfl (fun _ => rfl) (by decide +kernel) (fun x25 hf => ?_)
        refine iw_goto (off := (-47)) (pc' := 4) (by decide +kernel) ?_
        exact iw_sub [0, 1, 2, 3] rfl (ih _ _ hf)
      refine iw_if_eq (off := 33) (tg := 46) (pc' := 16) hf (by decide +kernel) (fun hf => ?_) (fun hf => ?_)
      · refine iw_iconst (i := 0) (v := (0 : Int32)) (pc' := 47) (by decide +kernel) ?_
        obtain rfl := Option.some.inj hf
        exact iw_sub [0, 1, 3] rfl hjq21
      · refine iw_aload_n (i := 0) (pc' := 17) 0 rfl (by decide +kernel) ?_
        refine iw_iload_n (i := 1) (pc' := 18) 1 rfl (by decide +kernel) ?_
        refine iw_aload_n (i := 0) (pc' := 19) 0 rfl (by decide +kernel) ?_
        refine iw_getr (pc' := 22) (q := 104) ic_fk9 cO_90 rfl lkf_X9_54 (by decide +kernel) ?_
        refine iw_iconst (i := 2) (v := (2 : Int32)) (pc' := 23) (by decide +kernel) ?_
        refine iw_iload_n (i := 3) (pc' := 24) 3 rfl (by decide +kernel) ?_
        refine iw_imul (pc' := 25) (by decide +kernel) ?_
        refine iw_iald (pc' := 26) hf (fun _ => cI_104) (by decide +kernel) (fun v22 hf => ?_)
        obtain ⟨v23, hc, hf⟩ := ic_bd hf
        refine iw_callV (pc' := 29) (S0 := []) (S1 := [.int v23]) (c1 := 0) (s1 := 0) (k := 2) (ct_X9_brokeBy l κ sw μ x1_ v22 hc) cO_90 ⟨rfl, rfl⟩ mv_X9_brokeBy lkm_X9_259 ⟨rfl, rfl⟩ (ic_sum8 trivial (Nat.le_of_ble_eq_true rfl)) (by unfold ic_rm; decide +kernel) ⟨rfl, rfl, rfl⟩ ⟨Nat.le_of_ble_eq_true rfl, Nat.le_of_ble_eq_true rfl⟩ ?_
        refine iw_aload_n (i := 0) (pc' := 30) 0 rfl (by decide +kernel) ?_
        refine iw_getr (pc' := 33) (q := 104) ic_fk9 cO_90 rfl lkf_X9_54 (by decide +kernel) ?_
        refine iw_iconst (i := 2) (v := (2 : Int32)) (pc' := 34) (by decide +kernel) ?_
        refine iw_iload_n (i := 3) (pc' := 35) 3 rfl (by decide +kernel) ?_
        refine iw_imul (pc' := 36) (by decide +kernel) ?_
        refine iw_iconst (i := 1) (v := (1 : Int32)) (pc' := 37) (by decide +kernel) ?_
        refine iw_iadd (pc' := 38) (by decide +kernel) ?_
        refine iw_iald (pc' := 39) hf (fun _ => cI_104) (by decide +kernel) (fun v24 hf => ?_)
        refine iw_icmp_ne (off := 7) (tg := 46) (pc' := 42) hf (by decide +kernel) (fun hf => ?_) (fun hf => ?_)
        · refine iw_iconst (i := 0) (v := (0 : Int32)) (pc' := 47) (by decide +kernel) ?_
          obtain rfl := Option.some.inj hf
          exact iw_sub [0, 1, 3] rfl hjq21
        · refine iw_iconst (i := 1) (v := (1 : Int32)) (pc' := 43) (by decide +kernel) ?_
          refine iw_goto (off := 4) (pc' := 47) (by decide +kernel) ?_
          obtain rfl := Option.some.inj hf
          exact iw_sub [0, 1, 3] rfl hjq21
set_option maxRecDepth 100000 in
set_option maxHeartbeats 4000000 in
theorem ct_X9_isSo (l : Launch) (κ : ic_K) (sw : Nat) (μ : ic_M) (x1 : Int32) {R : Int32} (hf : fX9_isSo μ x1 = some R) : ic_C l κ MX9_isSo [ic_rv κ.1 90, .int x1] 106 (ic_rs sw) μ (some (.int R)) 106 (ic_rs sw) μ := by
  refine ic_C.of (L := [(0, ic_rv κ.1 90), (1, .int x1)]) ⟨ic_cat _ _, rfl, trivial⟩ ⟨by decide +kernel, Nat.le_of_ble_eq_true rfl⟩ rfl ?_
  unfold fX9_isSo at hf
  refine iw_iconst (i := 1) (v := (1 : Int32)) (pc' := 1) (by decide +kernel) ?_
  refine iw_istore_n0 (i := 2) (pc' := 2) (L' := [(0, ic_rv κ.1 90), (1, .int x1), (2, .int (1 : Int32))]) rfl (by decide +kernel) ?_
  refine iw_iconst (i := 0) (v := (0 : Int32)) (pc' := 3) (by decide +kernel) ?_
  refine iw_istore_n0 (i := 3) (pc' := 4) (L' := [(0, ic_rv κ.1 90), (1, .int x1), (2, .int (1 : Int32)), (3, .int (0 : Int32))]) rfl (by decide +kernel) ?_
  obtain ⟨q26, hf, hgq26⟩ := ic_bd hf
  have hjq26 : ic_W l κ MX9_isSo ic_X0 (ic_Z κ MX9_isSo (some (.int R)) 106 (ic_rs sw) μ) 54 [(2, .int q26)] [] 106 (ic_rs sw) μ 0 0 := by
    have hf := hgq26
    refine iw_iload_n (i := 2) (pc' := 55) 0 rfl (by decide +kernel) ?_
    obtain ⟨hb, hf⟩ := ic_rz_of hf
    exact iw_zreturn hb (Option.some.inj hf) rfl rfl (by decide +kernel)
  exact iw_sub [0, 1, 2, 3] rfl (lpX9_isSo_4_ok l κ sw μ x1 hjq26 1000 (1 : Int32) (0 : Int32) hf)
set_option maxRecDepth 100000 in
set_option maxHeartbeats 4000000 in
theorem lpX9_who_31_ok (l : Launch) (κ : ic_K) (sw : Nat) (μ : ic_M) (x1_ : Int32) {Z : State → List Frame → Array Value → State → Prop} {R : Int32 × Int32 × Int32} (hk : ic_W l κ MX9_who ic_X0 Z 80 [(1, .int x1_), (2, .int R.1), (3, .int R.2.1), (4, .int R.2.2)] [] 106 (ic_rs sw) μ 0 0) : ∀ (fu : Nat) (y2_ : Int32) (y3_ : Int32) (y4_ : Int32) (y5_ : Int32), lpX9_who_31 μ x1_ fu y2_ y3_ y4_ y5_ = some R → ic_W l κ MX9_who ic_X0 Z 31 [(0, ic_rv κ.1 90), (1, .int x1_), (2, .int y2_), (3, .int y3_), (4, .int y4_), (5, .int y5_)] [] 106 (ic_rs sw) μ 0 0 := by
  intro fu
  induction fu with
  | zero =>
    intro y2_ y3_ y4_ y5_ hf
    exact absurd hf (by simp [lpX9_who_31])
  | succ fu ih =>
    intro y2_ y3_ y4_ y5_ hf
    rw [lpX9_who_31] at hf
    refine iw_iload (i := 5) (pc' := 33) 5 rfl (by decide +kernel) ?_
    refine iw_iconst (i := 1) (v := (1 : Int32)) (pc' := 34) (by decide +kernel) ?_
    refine iw_aload_n (i := 0) (pc' := 35) 0 rfl (by decide +kernel) ?_
    refine iw_getr (pc' := 38) (q := 92) ic_fk9 cO_90 rfl lkf_X9_17 (by decide +kernel) ?_
    refine iw_iconst (i := 3) (v := (3 : Int32)) (pc' := 39) (by decide +kernel) ?_
    refine iw_iald (pc' := 40) hf (fun _ => cI_92) (by decide +kernel) (fun v24 hf => ?_)
    refine iw_ishl (pc' := 41) (by decide +kernel) ?_
    refine iw_icmp_ge (off := 39) (tg := 80) (pc' := 44) hf (by decide +kernel) (fun hf => ?_) (fun hf => ?_)
    · obtain rfl := Option.some.inj hf
      exact iw_sub [1, 2, 3, 4] rfl hk
    · refine iw_aload_n (i := 0) (pc' := 45) 0 rfl (by decide +kernel) ?_
      refine iw_iload (i := 5) (pc' := 47) 5 rfl (by decide +kernel) ?_
      obtain ⟨v25, hc, hf⟩ := ic_bd hf
      refine iw_callV (pc' := 50) (S0 := []) (S1 := [.int v25]) (c1 := 0) (s1 := 0) (k := 1) (ct_X9_isSo l κ sw μ y5_ hc) cO_90 ⟨rfl, rfl⟩ mv_X9_isSo lkm_X9_262 ⟨rfl, rfl⟩ (ic_sum8 trivial (Nat.le_of_ble_eq_true rfl)) (by unfold ic_rm; decide +kernel) ⟨rfl, rfl, rfl⟩ ⟨Nat.le_of_ble_eq_true rfl, Nat.le_of_ble_eq_true rfl⟩ ?_
      obtain ⟨q26, hf, hgq26⟩ := ic_bd hf
      have hjq26 : ic_W l κ MX9_who ic_X0 Z 74 [(0, ic_rv κ.1 90), (1, .int x1_), (2, .int q26.1), (3, .int q26.2.1), (4, .int q26.2.2), (5, .int y5_)] [] 106 (ic_rs sw) μ 0 0 := by
        have hf := hgq26
        refine iw_iinc (i := 5) (d := 1) (pc' := 77) (v := (1 : Int32)) (L1 := fun x30 => [(0, ic_rv κ.1 90), (1, .int x1_), (2, .int q26.1), (3, .int q26.2.1), (4, .int q26.2.2), (5, .int x30)]) hf 5 rfl (fun _ => rfl) (by decide +kernel) (fun x30 hf => ?_)
        refine iw_goto (off := (-46)) (pc' := 31) (by decide +kernel) ?_
        exact iw_sub [0, 1, 2, 3, 4, 5] rfl (ih _ _ _ _ hf)
      refine iw_if_eq (off := 24) (tg := 74) (pc' := 53) hf (by decide +kernel) (fun hf => ?_) (fun hf => ?_)
      · obtain rfl := Option.some.inj hf
        exact iw_sub [0, 1, 2, 3, 4, 5] rfl hjq26
      · refine iw_iload_n (i := 2) (pc' := 54) 2 rfl (by decide +kernel) ?_
        obtain ⟨q27, hf, hgq27⟩ := ic_bd hf
        have hjq27 : ic_W l κ MX9_who ic_X0 Z 63 [(0, ic_rv κ.1 90), (1, .int x1_), (2, .int y2_), (4, .int y4_), (5, .int y5_)] [.int q27] 106 (ic_rs sw) μ 0 0 := by
          have hf := hgq27
          refine iw_istore_n0 (i := 3) (pc' := 64) (L' := [(0, ic_rv κ.1 90), (1, .int x1_), (2, .int y2_), (3, .int q27), (4, .int y4_), (5, .int y5_)]) rfl (by decide +kernel) ?_
          refine iw_iload (i := 4) (pc' := 66) 4 rfl (by decide +kernel) ?_
          refine iw_iload (i := 5) (pc' := 68) 5 rfl (by decide +kernel) ?_
          refine iw_iand (pc' := 69) (by decide +kernel) ?_
          refine iw_istore (i := 4) (pc' := 71) (L1 := fun x28 => [(0, ic_rv κ.1 90), (1, .int x1_), (2, .int y2_), (3, .int q27), (4, .int x28), (5, .int y5_)]) hf (fun _ => rfl) (by decide +kernel) (fun x28 hf => ?_)
          refine iw_iinc (i := 2) (d := 1) (pc' := 74) (v := (1 : Int32)) (L1 := fun x29 => [(0, ic_rv κ.1 90), (1, .int x1_), (2, .int x29), (3, .int q27), (4, .int x28), (5, .int y5_)]) hf 2 rfl (fun _ => rfl) (by decide +kernel) (fun x29 hf => ?_)
          obtain rfl := Option.some.inj hf
          exact iw_sub [0, 1, 2, 3, 4, 5] rfl hjq26
        refine iw_if_ne (off := 8) (tg := 62) (pc' := 57) hf (by decide +kernel) (fun hf => ?_) (fun hf => ?_)
        · refine iw_iload_n (i := 3) (pc' := 63) 3 rfl (by decide +kernel) ?_
          obtain rfl := Option.some.inj hf
          exact iw_sub [0, 1, 2, 4, 5] rfl hjq27
        · refine iw_iload (i := 5) (pc' := 59) 5 rfl (by decide +kernel) ?_
          refine iw_goto (off := 4) (pc' := 63) (by decide +kernel) ?_
          obtain rfl := Option.some.inj hf
          exact iw_sub [0, 1, 2, 4, 5] rfl hjq27
set_option maxRecDepth 100000 in
set_option maxHeartbeats 4000000 in
theorem ct_X9_who (l : Launch) (κ : ic_K) (sw : Nat) (μ : ic_M) (x1 : Int32) {R : Int32} (hf : fX9_who μ x1 = some R) : ic_C l κ MX9_who [ic_rv κ.1 90, .int x1] 106 (ic_rs sw) μ (some (.int R)) 106 (ic_rs sw) μ := by
  refine ic_C.of (L := [(0, ic_rv κ.1 90), (1, .int x1)]) ⟨ic_cat _ _, rfl, trivial⟩ ⟨by decide +kernel, Nat.le_of_ble_eq_true rfl⟩ rfl ?_
  unfold fX9_who at hf
  refine iw_iload_n (i := 1) (pc' := 1) 1 rfl (by decide +kernel) ?_
  refine iw_iconst (i := 0) (v := (0 : Int32)) (pc' := 2) (by decide +kernel) ?_
  refine iw_iconst (i := 2) (v := (2 : Int32)) (pc' := 3) (by decide +kernel) ?_
  obtain ⟨v21, hc, hf⟩ := ic_bd hf
  refine iw_callS (pc' := 6) (S0 := []) (S1 := [.int v21]) (c1 := 0) (s1 := 0) (k := 3) (ct_X9_in l κ sw μ x1 (0 : Int32) (2 : Int32) hc) ms_X9_in lkm_X9_63 ⟨rfl, rfl⟩ (ic_sum8 trivial (Nat.le_of_ble_eq_true rfl)) (by unfold ic_rm; decide +kernel) ⟨rfl, rfl, rfl⟩ ⟨Nat.le_of_ble_eq_true rfl, Nat.le_of_ble_eq_true rfl⟩ ?_
  refine iw_if_ne (off := 6) (tg := 12) (pc' := 9) hf (by decide +kernel) (fun hf => ?_) (fun hf => ?_)
  · refine iw_iconst (i := 0) (v := (0 : Int32)) (pc' := 13) (by decide +kernel) ?_
    refine iw_istore_n0 (i := 2) (pc' := 14) (L' := [(0, ic_rv κ.1 90), (1, .int x1), (2, .int (0 : Int32))]) rfl (by decide +kernel) ?_
    refine iw_iconst (i := (-1)) (v := (-1 : Int32)) (pc' := 15) (by decide +kernel) ?_
    refine iw_istore_n0 (i := 3) (pc' := 16) (L' := [(0, ic_rv κ.1 90), (1, .int x1), (2, .int (0 : Int32)), (3, .int (-1 : Int32))]) rfl (by decide +kernel) ?_
    refine iw_iconst (i := 1) (v := (1 : Int32)) (pc' := 17) (by decide +kernel) ?_
    refine iw_aload_n (i := 0) (pc' := 18) 0 rfl (by decide +kernel) ?_
    refine iw_getr (pc' := 21) (q := 92) ic_fk9 cO_90 rfl lkf_X9_17 (by decide +kernel) ?_
    refine iw_iconst (i := 3) (v := (3 : Int32)) (pc' := 22) (by decide +kernel) ?_
    refine iw_iald (pc' := 23) hf (fun _ => cI_92) (by decide +kernel) (fun v22 hf => ?_)
    refine iw_ishl (pc' := 24) (by decide +kernel) ?_
    refine iw_iconst (i := 1) (v := (1 : Int32)) (pc' := 25) (by decide +kernel) ?_
    refine iw_isub (pc' := 26) (by decide +kernel) ?_
    refine iw_istore (i := 4) (pc' := 28) (L1 := fun x23 => [(0, ic_rv κ.1 90), (1, .int x1), (2, .int (0 : Int32)), (3, .int (-1 : Int32)), (4, .int x23)]) hf (fun _ => rfl) (by decide +kernel) (fun x23 hf => ?_)
    refine iw_iconst (i := 0) (v := (0 : Int32)) (pc' := 29) (by decide +kernel) ?_
    refine iw_istore0 (i := 5) (pc' := 31) (L' := [(0, ic_rv κ.1 90), (1, .int x1), (2, .int (0 : Int32)), (3, .int (-1 : Int32)), (4, .int x23), (5, .int (0 : Int32))]) rfl (by decide +kernel) ?_
    obtain ⟨q31, hf, hgq31⟩ := ic_bd hf
    have hjq31 : ic_W l κ MX9_who ic_X0 (ic_Z κ MX9_who (some (.int R)) 106 (ic_rs sw) μ) 80 [(1, .int x1), (2, .int q31.1), (3, .int q31.2.1), (4, .int q31.2.2)] [] 106 (ic_rs sw) μ 0 0 := by
      have hf := hgq31
      refine iw_iload_n (i := 1) (pc' := 81) 0 rfl (by decide +kernel) ?_
      obtain ⟨q32, hf, hgq32⟩ := ic_bd hf
      have hjq32 : ic_W l κ MX9_who ic_X0 (ic_Z κ MX9_who (some (.int R)) 106 (ic_rs sw) μ) 107 [] [.int q32] 106 (ic_rs sw) μ 0 0 := by
        have hf := hgq32
        exact iw_ireturn (Option.some.inj hf) rfl rfl (by decide +kernel)
      refine iw_if_ne (off := 7) (tg := 88) (pc' := 84) hf (by decide +kernel) (fun hf => ?_) (fun hf => ?_)
      · refine iw_iload_n (i := 1) (pc' := 89) 0 rfl (by decide +kernel) ?_
        refine iw_iconst (i := 1) (v := (1 : Int32)) (pc' := 90) (by decide +kernel) ?_
        refine iw_icmp_ne (off := 7) (tg := 97) (pc' := 93) hf (by decide +kernel) (fun hf => ?_) (fun hf => ?_)
        · refine iw_iload_n (i := 2) (pc' := 98) 1 rfl (by decide +kernel) ?_
          refine iw_if_ne (off := 7) (tg := 105) (pc' := 101) hf (by decide +kernel) (fun hf => ?_) (fun hf => ?_)
          · refine iw_iload (i := 4) (pc' := 107) 3 rfl (by decide +kernel) ?_
            obtain rfl := Option.some.inj hf
            exact iw_sub [] rfl hjq32
          · refine iw_iconst (i := 0) (v := (0 : Int32)) (pc' := 102) (by decide +kernel) ?_
            refine iw_goto (off := 5) (pc' := 107) (by decide +kernel) ?_
            obtain rfl := Option.some.inj hf
            exact iw_sub [] rfl hjq32
        · refine iw_iload_n (i := 3) (pc' := 94) 2 rfl (by decide +kernel) ?_
          refine iw_goto (off := 13) (pc' := 107) (by decide +kernel) ?_
          obtain rfl := Option.some.inj hf
          exact iw_sub [] rfl hjq32
      · refine iw_iload_n (i := 2) (pc' := 85) 1 rfl (by decide +kernel) ?_
        refine iw_goto (off := 22) (pc' := 107) (by decide +kernel) ?_
        obtain rfl := Option.some.inj hf
        exact iw_sub [] rfl hjq32
    exact iw_sub [0, 1, 2, 3, 4, 5] rfl (lpX9_who_31_ok l κ sw μ x1 hjq31 1000 (0 : Int32) (-1 : Int32) x23 (0 : Int32) hf)
  · refine iw_ldc (pc' := 11) lkc_X9_67 (by decide +kernel) ?_
    exact iw_ireturn (Option.some.inj hf) rfl rfl (by decide +kernel)
set_option maxRecDepth 100000 in
set_option maxHeartbeats 4000000 in
theorem lpX9_ask_26_ok (l : Launch) (κ : ic_K) (sw : Nat) (μ : ic_M) (x1_ : Int32) (x2_ : Int32) (x3_ : Int32) (x4_ : Int32) {Z : State → List Frame → Array Value → State → Prop} {R : Int32} (hk : ic_W l κ MX9_ask ic_X0 Z 71 [(0, ic_rv κ.1 90), (1, .int x1_), (2, .int x2_), (3, .int x3_), (4, .int x4_), (5, .int R)] [] 106 (ic_rs sw) μ 0 0) : ∀ (fu : Nat) (y5_ : Int32) (y6_ : Int32), lpX9_ask_26 μ x1_ x2_ x3_ x4_ fu y5_ y6_ = some R → ic_W l κ MX9_ask ic_X0 Z 26 [(0, ic_rv κ.1 90), (1, .int x1_), (2, .int x2_), (3, .int x3_), (4, .int x4_), (5, .int y5_), (6, .int y6_)] [] 106 (ic_rs sw) μ 0 0 := by
  intro fu
  induction fu with
  | zero =>
    intro y5_ y6_ hf
    exact absurd hf (by simp [lpX9_ask_26])
  | succ fu ih =>
    intro y5_ y6_ hf
    rw [lpX9_ask_26] at hf
    refine iw_iload (i := 6) (pc' := 28) 6 rfl (by decide +kernel) ?_
    refine iw_iconst (i := 1) (v := (1 : Int32)) (pc' := 29) (by decide +kernel) ?_
    refine iw_aload_n (i := 0) (pc' := 30) 0 rfl (by decide +kernel) ?_
    refine iw_getr (pc' := 33) (q := 92) ic_fk9 cO_90 rfl lkf_X9_17 (by decide +kernel) ?_
    refine iw_iconst (i := 3) (v := (3 : Int32)) (pc' := 34) (by decide +kernel) ?_
    refine iw_iald (pc' := 35) hf (fun _ => cI_92) (by decide +kernel) (fun v22 hf => ?_)
    refine iw_ishl (pc' := 36) (by decide +kernel) ?_
    refine iw_icmp_ge (off := 35) (tg := 71) (pc' := 39) hf (by decide +kernel) (fun hf => ?_) (fun hf => ?_)
    · obtain rfl := Option.some.inj hf
      exact iw_sub [0, 1, 2, 3, 4, 5] rfl hk
    · refine iw_iload (i := 5) (pc' := 41) 5 rfl (by decide +kernel) ?_
      refine iw_aload_n (i := 0) (pc' := 42) 0 rfl (by decide +kernel) ?_
      refine iw_iload (i := 6) (pc' := 44) 6 rfl (by decide +kernel) ?_
      obtain ⟨v23, hc, hf⟩ := ic_bd hf
      refine iw_callV (pc' := 47) (S0 := [.int y5_]) (S1 := [.int v23, .int y5_]) (c1 := 0) (s1 := 0) (k := 1) (ct_X9_isSo l κ sw μ y6_ hc) cO_90 ⟨rfl, rfl⟩ mv_X9_isSo lkm_X9_262 ⟨rfl, rfl⟩ (ic_sum8 ⟨rfl, trivial⟩ (Nat.le_of_ble_eq_true rfl)) (by unfold ic_rm; decide +kernel) ⟨rfl, rfl, rfl⟩ ⟨Nat.le_of_ble_eq_true rfl, Nat.le_of_ble_eq_true rfl⟩ ?_
      obtain ⟨q24, hf, hgq24⟩ := ic_bd hf
      have hjq24 : ic_W l κ MX9_ask ic_X0 Z 62 [(0, ic_rv κ.1 90), (1, .int x1_), (2, .int x2_), (3, .int x3_), (4, .int x4_), (6, .int y6_)] [.int q24, .int y5_] 106 (ic_rs sw) μ 0 0 := by
        have hf := hgq24
        refine iw_iadd (pc' := 63) (by decide +kernel) ?_
        refine iw_istore (i := 5) (pc' := 65) (L1 := fun x26 => [(0, ic_rv κ.1 90), (1, .int x1_), (2, .int x2_), (3, .int x3_), (4, .int x4_), (5, .int x26), (6, .int y6_)]) hf (fun _ => rfl) (by decide +kernel) (fun x26 hf => ?_)
        refine iw_iinc (i := 6) (d := 1) (pc' := 68) (v := (1 : Int32)) (L1 := fun x27 => [(0, ic_rv κ.1 90), (1, .int x1_), (2, .int x2_), (3, .int x3_), (4, .int x4_), (5, .int x26), (6, .int x27)]) hf 6 rfl (fun _ => rfl) (by decide +kernel) (fun x27 hf => ?_)
        refine iw_goto (off := (-42)) (pc' := 26) (by decide +kernel) ?_
        exact iw_sub [0, 1, 2, 3, 4, 5, 6] rfl (ih _ _ hf)
      refine iw_if_eq (off := 14) (tg := 61) (pc' := 50) hf (by decide +kernel) (fun hf => ?_) (fun hf => ?_)
      · refine iw_iconst (i := 0) (v := (0 : Int32)) (pc' := 62) (by decide +kernel) ?_
        obtain rfl := Option.some.inj hf
        exact iw_sub [0, 1, 2, 3, 4, 6] rfl hjq24
      · refine iw_aload_n (i := 0) (pc' := 51) 0 rfl (by decide +kernel) ?_
        refine iw_iload (i := 6) (pc' := 53) 6 rfl (by decide +kernel) ?_
        refine iw_iload (i := 4) (pc' := 55) 4 rfl (by decide +kernel) ?_
        obtain ⟨v25, hc, hf⟩ := ic_bd hf
        refine iw_callV (pc' := 58) (S0 := [.int y5_]) (S1 := [.int v25, .int y5_]) (c1 := 0) (s1 := 0) (k := 2) (ct_X9_brokeBy l κ sw μ y6_ x4_ hc) cO_90 ⟨rfl, rfl⟩ mv_X9_brokeBy lkm_X9_259 ⟨rfl, rfl⟩ (ic_sum8 ⟨rfl, trivial⟩ (Nat.le_of_ble_eq_true rfl)) (by unfold ic_rm; decide +kernel) ⟨rfl, rfl, rfl⟩ ⟨Nat.le_of_ble_eq_true rfl, Nat.le_of_ble_eq_true rfl⟩ ?_
        refine iw_goto (off := 4) (pc' := 62) (by decide +kernel) ?_
        obtain rfl := Option.some.inj hf
        exact iw_sub [0, 1, 2, 3, 4, 6] rfl hjq24
set_option maxRecDepth 100000 in
set_option maxHeartbeats 4000000 in
theorem lpX9_ask_13_ok (l : Launch) (κ : ic_K) (sw : Nat) (μ : ic_M) (x1_ : Int32) {Z : State → List Frame → Array Value → State → Prop} {R : Int32} (hk : ic_W l κ MX9_ask ic_X0 Z 108 [(2, .int R)] [] 106 (ic_rs sw) μ 0 0) : ∀ (fu : Nat) (y2_ : Int32) (y3_ : Int32) (y4_ : Int32), lpX9_ask_13 μ x1_ fu y2_ y3_ y4_ = some R → ic_W l κ MX9_ask ic_X0 Z 13 [(0, ic_rv κ.1 90), (1, .int x1_), (2, .int y2_), (3, .int y3_), (4, .int y4_)] [] 106 (ic_rs sw) μ 0 0 := by
  intro fu
  induction fu with
  | zero =>
    intro y2_ y3_ y4_ hf
    exact absurd hf (by simp [lpX9_ask_13])
  | succ fu ih =>
    intro y2_ y3_ y4_ hf
    rw [lpX9_ask_13] at hf
    refine iw_iload (i := 4) (pc' := 15) 4 rfl (by decide +kernel) ?_
    refine iw_bipush (i := 61) (v := (61 : Int32)) (pc' := 17) (by decide +kernel) ?_
    refine iw_icmp_ge (off := 91) (tg := 108) (pc' := 20) hf (by decide +kernel) (fun hf => ?_) (fun hf => ?_)
    · obtain rfl := Option.some.inj hf
      exact iw_sub [2] rfl hk
    · refine iw_iconst (i := 0) (v := (0 : Int32)) (pc' := 21) (by decide +kernel) ?_
      refine iw_istore0 (i := 5) (pc' := 23) (L' := [(0, ic_rv κ.1 90), (1, .int x1_), (2, .int y2_), (3, .int y3_), (4, .int y4_), (5, .int (0 : Int32))]) rfl (by decide +kernel) ?_
      refine iw_iconst (i := 0) (v := (0 : Int32)) (pc' := 24) (by decide +kernel) ?_
      refine iw_istore0 (i := 6) (pc' := 26) (L' := [(0, ic_rv κ.1 90), (1, .int x1_), (2, .int y2_), (3, .int y3_), (4, .int y4_), (5, .int (0 : Int32)), (6, .int (0 : Int32))]) rfl (by decide +kernel) ?_
      obtain ⟨q28, hf, hgq28⟩ := ic_bd hf
      have hjq28 : ic_W l κ MX9_ask ic_X0 Z 71 [(0, ic_rv κ.1 90), (1, .int x1_), (2, .int y2_), (3, .int y3_), (4, .int y4_), (5, .int q28)] [] 106 (ic_rs sw) μ 0 0 := by
        have hf := hgq28
        refine iw_iload (i := 5) (pc' := 73) 5 rfl (by decide +kernel) ?_
        refine iw_iload_n (i := 1) (pc' := 74) 1 rfl (by decide +kernel) ?_
        refine iw_iload (i := 5) (pc' := 76) 5 rfl (by decide +kernel) ?_
        refine iw_isub (pc' := 77) (by decide +kernel) ?_
        obtain ⟨v29, hc, hf⟩ := ic_bd hf
        refine iw_callS (pc' := 80) (S0 := []) (S1 := [.int v29]) (c1 := 0) (s1 := 0) (k := 2) (ct_X9_greater l κ sw μ q28 (x1_ - q28) hc) ms_X9_greater lkm_X9_255 ⟨rfl, rfl⟩ (ic_sum8 trivial (Nat.le_of_ble_eq_true rfl)) (by unfold ic_rm; decide +kernel) ⟨rfl, rfl, rfl⟩ ⟨Nat.le_of_ble_eq_true rfl, Nat.le_of_ble_eq_true rfl⟩ ?_
        refine iw_istore0 (i := 6) (pc' := 82) (L' := [(0, ic_rv κ.1 90), (1, .int x1_), (2, .int y2_), (3, .int y3_), (4, .int y4_), (5, .int q28), (6, .int v29)]) rfl (by decide +kernel) ?_
        refine iw_iload (i := 6) (pc' := 84) 6 rfl (by decide +kernel) ?_
        refine iw_iload_n (i := 3) (pc' := 85) 3 rfl (by decide +kernel) ?_
        obtain ⟨q30, hf, hgq30⟩ := ic_bd hf
        have hjq30 : ic_W l κ MX9_ask ic_X0 Z 94 [(0, ic_rv κ.1 90), (1, .int x1_), (3, .int y3_), (4, .int y4_), (6, .int v29)] [.int q30] 106 (ic_rs sw) μ 0 0 := by
          have hf := hgq30
          refine iw_istore_n0 (i := 2) (pc' := 95) (L' := [(0, ic_rv κ.1 90), (1, .int x1_), (2, .int q30), (3, .int y3_), (4, .int y4_), (6, .int v29)]) rfl (by decide +kernel) ?_
          refine iw_iload (i := 6) (pc' := 97) 5 rfl (by decide +kernel) ?_
          refine iw_iload_n (i := 3) (pc' := 98) 3 rfl (by decide +kernel) ?_
          obtain ⟨v31, hc, hf⟩ := ic_bd hf
          refine iw_callS (pc' := 101) (S0 := []) (S1 := [.int v31]) (c1 := 0) (s1 := 0) (k := 2) (ct_X9_lesser l κ sw μ v29 y3_ hc) ms_X9_lesser lkm_X9_252 ⟨rfl, rfl⟩ (ic_sum8 trivial (Nat.le_of_ble_eq_true rfl)) (by unfold ic_rm; decide +kernel) ⟨rfl, rfl, rfl⟩ ⟨Nat.le_of_ble_eq_true rfl, Nat.le_of_ble_eq_true rfl⟩ ?_
          refine iw_istore_n0 (i := 3) (pc' := 102) (L' := [(0, ic_rv κ.1 90), (1, .int x1_), (2, .int q30), (3, .int v31), (4, .int y4_), (6, .int v29)]) rfl (by decide +kernel) ?_
          refine iw_iinc (i := 4) (d := 1) (pc' := 105) (v := (1 : Int32)) (L1 := fun x32 => [(0, ic_rv κ.1 90), (1, .int x1_), (2, .int q30), (3, .int v31), (4, .int x32), (6, .int v29)]) hf 4 rfl (fun _ => rfl) (by decide +kernel) (fun x32 hf => ?_)
          refine iw_goto (off := (-92)) (pc' := 13) (by decide +kernel) ?_
          exact iw_sub [0, 1, 2, 3, 4] rfl (ih _ _ _ hf)
        refine iw_icmp_ge (off := 8) (tg := 93) (pc' := 88) hf (by decide +kernel) (fun hf => ?_) (fun hf => ?_)
        · refine iw_iload_n (i := 2) (pc' := 94) 2 rfl (by decide +kernel) ?_
          obtain rfl := Option.some.inj hf
          exact iw_sub [0, 1, 3, 4, 6] rfl hjq30
        · refine iw_iload (i := 4) (pc' := 90) 4 rfl (by decide +kernel) ?_
          refine iw_goto (off := 4) (pc' := 94) (by decide +kernel) ?_
          obtain rfl := Option.some.inj hf
          exact iw_sub [0, 1, 3, 4, 6] rfl hjq30
      exact iw_sub [0, 1, 2, 3, 4, 5, 6] rfl (lpX9_ask_26_ok l κ sw μ x1_ y2_ y3_ y4_ hjq28 1000 (0 : Int32) (0 : Int32) hf)
set_option maxRecDepth 100000 in
set_option maxHeartbeats 4000000 in
theorem ct_X9_ask (l : Launch) (κ : ic_K) (sw : Nat) (μ : ic_M) {R : Int32} (hf : fX9_ask μ = some R) : ic_C l κ MX9_ask [ic_rv κ.1 90] 106 (ic_rs sw) μ (some (.int R)) 106 (ic_rs sw) μ := by
  refine ic_C.of (L := [(0, ic_rv κ.1 90)]) ⟨ic_cat _ _, trivial⟩ ⟨by decide +kernel, Nat.le_of_ble_eq_true rfl⟩ rfl ?_
  unfold fX9_ask at hf
  refine iw_aload_n (i := 0) (pc' := 1) 0 rfl (by decide +kernel) ?_
  refine iw_iconst (i := 0) (v := (0 : Int32)) (pc' := 2) (by decide +kernel) ?_
  obtain ⟨v21, hc, hf⟩ := ic_bd hf
  refine iw_callV (pc' := 5) (S0 := []) (S1 := [.int v21]) (c1 := 0) (s1 := 0) (k := 1) (ct_X9_who l κ sw μ (0 : Int32) hc) cO_90 ⟨rfl, rfl⟩ mv_X9_who lkm_X9_265 ⟨rfl, rfl⟩ (ic_sum8 trivial (Nat.le_of_ble_eq_true rfl)) (by unfold ic_rm; decide +kernel) ⟨rfl, rfl, rfl⟩ ⟨Nat.le_of_ble_eq_true rfl, Nat.le_of_ble_eq_true rfl⟩ ?_
  refine iw_istore_n0 (i := 1) (pc' := 6) (L' := [(0, ic_rv κ.1 90), (1, .int v21)]) rfl (by decide +kernel) ?_
  refine iw_iconst (i := (-1)) (v := (-1 : Int32)) (pc' := 7) (by decide +kernel) ?_
  refine iw_istore_n0 (i := 2) (pc' := 8) (L' := [(0, ic_rv κ.1 90), (1, .int v21), (2, .int (-1 : Int32))]) rfl (by decide +kernel) ?_
  refine iw_iload_n (i := 1) (pc' := 9) 1 rfl (by decide +kernel) ?_
  refine iw_istore_n0 (i := 3) (pc' := 10) (L' := [(0, ic_rv κ.1 90), (1, .int v21), (2, .int (-1 : Int32)), (3, .int v21)]) rfl (by decide +kernel) ?_
  refine iw_iconst (i := 1) (v := (1 : Int32)) (pc' := 11) (by decide +kernel) ?_
  refine iw_istore0 (i := 4) (pc' := 13) (L' := [(0, ic_rv κ.1 90), (1, .int v21), (2, .int (-1 : Int32)), (3, .int v21), (4, .int (1 : Int32))]) rfl (by decide +kernel) ?_
  obtain ⟨q33, hf, hgq33⟩ := ic_bd hf
  have hjq33 : ic_W l κ MX9_ask ic_X0 (ic_Z κ MX9_ask (some (.int R)) 106 (ic_rs sw) μ) 108 [(2, .int q33)] [] 106 (ic_rs sw) μ 0 0 := by
    have hf := hgq33
    refine iw_iload_n (i := 2) (pc' := 109) 0 rfl (by decide +kernel) ?_
    exact iw_ireturn (Option.some.inj hf) rfl rfl (by decide +kernel)
  exact iw_sub [0, 1, 2, 3, 4] rfl (lpX9_ask_13_ok l κ sw μ v21 hjq33 1000 (-1 : Int32) v21 (1 : Int32) hf)
set_option maxRecDepth 100000 in
set_option maxHeartbeats 4000000 in
theorem ct_X9_write (l : Launch) (κ : ic_K) (sw : Nat) (μ : ic_M) (x1 : Int32) (x2 : Int32) {R : Int32 × ic_M} (hf : fX9_write μ x1 x2 = some R) : ic_C l κ MX9_write [ic_rv κ.1 90, .int x1, .int x2] 106 (ic_rs sw) μ (some (.int R.1)) 106 (ic_rs sw) R.2 := by
  refine ic_C.of (L := [(0, ic_rv κ.1 90), (1, .int x1), (2, .int x2)]) ⟨ic_cat _ _, rfl, rfl, trivial⟩ ⟨by decide +kernel, Nat.le_of_ble_eq_true rfl⟩ rfl ?_
  unfold fX9_write at hf
  refine iw_aload_n (i := 0) (pc' := 1) 0 rfl (by decide +kernel) ?_
  refine iw_iload_n (i := 1) (pc' := 2) 1 rfl (by decide +kernel) ?_
  obtain ⟨v21, hc, hf⟩ := ic_bd hf
  refine iw_callV (pc' := 5) (S0 := []) (S1 := [.int v21]) (c1 := 0) (s1 := 0) (k := 1) (ct_X9_isCell l κ sw μ x1 hc) cO_90 ⟨rfl, rfl⟩ mv_X9_isCell lkm_X9_190 ⟨rfl, rfl⟩ (ic_sum8 trivial (Nat.le_of_ble_eq_true rfl)) (by unfold ic_rm; decide +kernel) ⟨rfl, rfl, rfl⟩ ⟨Nat.le_of_ble_eq_true rfl, Nat.le_of_ble_eq_true rfl⟩ ?_
  refine iw_if_ne (off := 6) (tg := 11) (pc' := 8) hf (by decide +kernel) (fun hf => ?_) (fun hf => ?_)
  · refine iw_iload_n (i := 2) (pc' := 12) 2 rfl (by decide +kernel) ?_
    refine iw_iconst (i := 0) (v := (0 : Int32)) (pc' := 13) (by decide +kernel) ?_
    refine iw_bipush (i := 60) (v := (60 : Int32)) (pc' := 15) (by decide +kernel) ?_
    obtain ⟨v22, hc, hf⟩ := ic_bd hf
    refine iw_callS (pc' := 18) (S0 := []) (S1 := [.int v22]) (c1 := 0) (s1 := 0) (k := 3) (ct_X9_in l κ sw μ x2 (0 : Int32) (60 : Int32) hc) ms_X9_in lkm_X9_63 ⟨rfl, rfl⟩ (ic_sum8 trivial (Nat.le_of_ble_eq_true rfl)) (by unfold ic_rm; decide +kernel) ⟨rfl, rfl, rfl⟩ ⟨Nat.le_of_ble_eq_true rfl, Nat.le_of_ble_eq_true rfl⟩ ?_
    refine iw_if_ne (off := 6) (tg := 24) (pc' := 21) hf (by decide +kernel) (fun hf => ?_) (fun hf => ?_)
    · refine iw_aload_n (i := 0) (pc' := 25) 0 rfl (by decide +kernel) ?_
      refine iw_geti (pc' := 28) ic_fk9 cO_90 lkf_X9_129 (by decide +kernel) ?_
      refine iw_bipush (i := 15) (v := (15 : Int32)) (pc' := 30) (by decide +kernel) ?_
      refine iw_icmp_ne (off := 6) (tg := 36) (pc' := 33) hf (by decide +kernel) (fun hf => ?_) (fun hf => ?_)
      · refine iw_aload_n (i := 0) (pc' := 37) 0 rfl (by decide +kernel) ?_
        refine iw_getr (pc' := 40) (q := 105) ic_fk9 cO_90 rfl lkf_X9_57 (by decide +kernel) ?_
        refine iw_iconst (i := 2) (v := (2 : Int32)) (pc' := 41) (by decide +kernel) ?_
        refine iw_aload_n (i := 0) (pc' := 42) 0 rfl (by decide +kernel) ?_
        refine iw_geti (pc' := 45) ic_fk9 cO_90 lkf_X9_129 (by decide +kernel) ?_
        refine iw_imul (pc' := 46) (by decide +kernel) ?_
        refine iw_iload_n (i := 1) (pc' := 47) 1 rfl (by decide +kernel) ?_
        refine iw_iast (pc' := 48) hf (fun _ => cI_105) (by decide +kernel) (fun m23 hf => ?_)
        refine iw_aload_n (i := 0) (pc' := 49) 0 rfl (by decide +kernel) ?_
        refine iw_getr (pc' := 52) (q := 105) ic_fk9 cO_90 rfl lkf_X9_57 (by decide +kernel) ?_
        refine iw_iconst (i := 2) (v := (2 : Int32)) (pc' := 53) (by decide +kernel) ?_
        refine iw_aload_n (i := 0) (pc' := 54) 0 rfl (by decide +kernel) ?_
        refine iw_geti (pc' := 57) ic_fk9 cO_90 lkf_X9_129 (by decide +kernel) ?_
        refine iw_imul (pc' := 58) (by decide +kernel) ?_
        refine iw_iconst (i := 1) (v := (1 : Int32)) (pc' := 59) (by decide +kernel) ?_
        refine iw_iadd (pc' := 60) (by decide +kernel) ?_
        refine iw_iload_n (i := 2) (pc' := 61) 2 rfl (by decide +kernel) ?_
        refine iw_iast (pc' := 62) hf (fun _ => cI_105) (by decide +kernel) (fun m24 hf => ?_)
        refine iw_aload_n (i := 0) (pc' := 63) 0 rfl (by decide +kernel) ?_
        refine iw_dup (pc' := 64) (ic_cat _ _) (by decide +kernel) ?_
        refine iw_geti (pc' := 67) ic_fk9 cO_90 lkf_X9_129 (by decide +kernel) ?_
        refine iw_iconst (i := 1) (v := (1 : Int32)) (pc' := 68) (by decide +kernel) ?_
        refine iw_iadd (pc' := 69) (by decide +kernel) ?_
        refine iw_put (pc' := 72) hf ic_fk9 cO_90 lkf_X9_129 (by decide +kernel) (fun m25 hf => ?_)
        refine iw_aload_n (i := 0) (pc' := 73) 0 rfl (by decide +kernel) ?_
        refine iw_geti (pc' := 76) ic_fk9 cO_90 lkf_X9_129 (by decide +kernel) ?_
        exact iw_ireturn (ic_q1 (Option.some.inj hf)) rfl (ic_q2 (Option.some.inj hf)) (by decide +kernel)
      · refine iw_ldc (pc' := 35) lkc_X9_71 (by decide +kernel) ?_
        exact iw_ireturn (ic_q1 (Option.some.inj hf)) rfl (ic_q2 (Option.some.inj hf)) (by decide +kernel)
    · refine iw_ldc (pc' := 23) lkc_X9_67 (by decide +kernel) ?_
      exact iw_ireturn (ic_q1 (Option.some.inj hf)) rfl (ic_q2 (Option.some.inj hf)) (by decide +kernel)
  · refine iw_ldc (pc' := 10) lkc_X9_194 (by decide +kernel) ?_
    exact iw_ireturn (ic_q1 (Option.some.inj hf)) rfl (ic_q2 (Option.some.inj hf)) (by decide +kernel)
set_option maxRecDepth 100000 in
set_option maxHeartbeats 4000000 in
theorem ct_X9_tear (l : Launch) (κ : ic_K) (sw : Nat) (μ : ic_M) {R : Int32 × ic_M} (hf : fX9_tear μ = some R) : ic_C l κ MX9_tear [ic_rv κ.1 90] 106 (ic_rs sw) μ (some (.int R.1)) 106 (ic_rs sw) R.2 := by
  refine ic_C.of (L := [(0, ic_rv κ.1 90)]) ⟨ic_cat _ _, trivial⟩ ⟨by decide +kernel, Nat.le_of_ble_eq_true rfl⟩ rfl ?_
  unfold fX9_tear at hf
  refine iw_aload_n (i := 0) (pc' := 1) 0 rfl (by decide +kernel) ?_
  refine iw_geti (pc' := 4) ic_fk9 cO_90 lkf_X9_126 (by decide +kernel) ?_
  refine iw_aload_n (i := 0) (pc' := 5) 0 rfl (by decide +kernel) ?_
  refine iw_geti (pc' := 8) ic_fk9 cO_90 lkf_X9_129 (by decide +kernel) ?_
  refine iw_iadd (pc' := 9) (by decide +kernel) ?_
  refine iw_istore_n (i := 1) (pc' := 10) (L1 := fun x21 => [(0, ic_rv κ.1 90), (1, .int x21)]) hf (fun _ => rfl) (by decide +kernel) (fun x21 hf => ?_)
  refine iw_aload_n (i := 0) (pc' := 11) 0 rfl (by decide +kernel) ?_
  refine iw_iconst (i := 0) (v := (0 : Int32)) (pc' := 12) (by decide +kernel) ?_
  refine iw_put (pc' := 15) hf ic_fk9 cO_90 lkf_X9_126 (by decide +kernel) (fun m22 hf => ?_)
  refine iw_aload_n (i := 0) (pc' := 16) 0 rfl (by decide +kernel) ?_
  refine iw_iconst (i := 0) (v := (0 : Int32)) (pc' := 17) (by decide +kernel) ?_
  refine iw_put (pc' := 20) hf ic_fk9 cO_90 lkf_X9_129 (by decide +kernel) (fun m23 hf => ?_)
  refine iw_iload_n (i := 1) (pc' := 21) 1 rfl (by decide +kernel) ?_
  exact iw_ireturn (ic_q1 (Option.some.inj hf)) rfl (ic_q2 (Option.some.inj hf)) (by decide +kernel)
set_option maxRecDepth 100000 in
set_option maxHeartbeats 4000000 in
theorem lpX9_judge_2_ok (l : Launch) (κ : ic_K) (sw : Nat) (μ : ic_M) {Rf : Int32} {R : (Unit) ⊕ (Int32)} (hk : ∀ t, R = .inl t → ic_W l κ MX9_judge ic_X0 (ic_Z κ MX9_judge (some (.int Rf)) 106 (ic_rs sw) μ) 44 [] [] 106 (ic_rs sw) μ 0 0) (hr : ∀ v, R = .inr v → v = Rf) : ∀ (fu : Nat) (y1_ : Int32), lpX9_judge_2 μ fu y1_ = some R → ic_W l κ MX9_judge ic_X0 (ic_Z κ MX9_judge (some (.int Rf)) 106 (ic_rs sw) μ) 2 [(0, ic_rv κ.1 90), (1, .int y1_)] [] 106 (ic_rs sw) μ 0 0 := by
  intro fu
  induction fu with
  | zero =>
    intro y1_ hf
    exact absurd hf (by simp [lpX9_judge_2])
  | succ fu ih =>
    intro y1_ hf
    rw [lpX9_judge_2] at hf
    refine iw_iload_n (i := 1) (pc' := 3) 1 rfl (by decide +kernel) ?_
    refine iw_aload_n (i := 0) (pc' := 4) 0 rfl (by decide +kernel) ?_
    refine iw_geti (pc' := 7) ic_fk9 cO_90 lkf_X9_129 (by decide +kernel) ?_
    refine iw_icmp_ge (off := 37) (tg := 44) (pc' := 10) hf (by decide +kernel) (fun hf => ?_) (fun hf => ?_)
    · exact iw_sub [] rfl (hk _ (Option.some.inj hf).symm)
    · refine iw_aload_n (i := 0) (pc' := 11) 0 rfl (by decide +kernel) ?_
      refine iw_getr (pc' := 14) (q := 98) ic_fk9 cO_90 rfl lkf_X9_35 (by decide +kernel) ?_
      refine iw_aload_n (i := 0) (pc' := 15) 0 rfl (by decide +kernel) ?_
      refine iw_getr (pc' := 18) (q := 105) ic_fk9 cO_90 rfl lkf_X9_57 (by decide +kernel) ?_
      refine iw_iconst (i := 2) (v := (2 : Int32)) (pc' := 19) (by decide +kernel) ?_
      refine iw_iload_n (i := 1) (pc' := 20) 1 rfl (by decide +kernel) ?_
      refine iw_imul (pc' := 21) (by decide +kernel) ?_
      refine iw_iald (pc' := 22) hf (fun _ => cI_105) (by decide +kernel) (fun v21 hf => ?_)
      refine iw_iald (pc' := 23) hf (fun _ => cI_98) (by decide +kernel) (fun v22 hf => ?_)
      refine iw_aload_n (i := 0) (pc' := 24) 0 rfl (by decide +kernel) ?_
      refine iw_getr (pc' := 27) (q := 105) ic_fk9 cO_90 rfl lkf_X9_57 (by decide +kernel) ?_
      refine iw_iconst (i := 2) (v := (2 : Int32)) (pc' := 28) (by decide +kernel) ?_
      refine iw_iload_n (i := 1) (pc' := 29) 1 rfl (by decide +kernel) ?_
      refine iw_imul (pc' := 30) (by decide +kernel) ?_
      refine iw_iconst (i := 1) (v := (1 : Int32)) (pc' := 31) (by decide +kernel) ?_
      refine iw_iadd (pc' := 32) (by decide +kernel) ?_
      refine iw_iald (pc' := 33) hf (fun _ => cI_105) (by decide +kernel) (fun v23 hf => ?_)
      refine iw_icmp_eq (off := 5) (tg := 38) (pc' := 36) hf (by decide +kernel) (fun hf => ?_) (fun hf => ?_)
      · refine iw_iinc (i := 1) (d := 1) (pc' := 41) (v := (1 : Int32)) (L1 := fun x24 => [(0, ic_rv κ.1 90), (1, .int x24)]) hf 1 rfl (fun _ => rfl) (by decide +kernel) (fun x24 hf => ?_)
        refine iw_goto (off := (-39)) (pc' := 2) (by decide +kernel) ?_
        exact iw_sub [0, 1] rfl (ih _ hf)
      · refine iw_iload_n (i := 1) (pc' := 37) 1 rfl (by decide +kernel) ?_
        exact iw_ireturn (hr _ (Option.some.inj hf).symm) rfl rfl (by decide +kernel)
set_option maxRecDepth 100000 in
set_option maxHeartbeats 4000000 in
theorem ct_X9_judge (l : Launch) (κ : ic_K) (sw : Nat) (μ : ic_M) {R : Int32} (hf : fX9_judge μ = some R) : ic_C l κ MX9_judge [ic_rv κ.1 90] 106 (ic_rs sw) μ (some (.int R)) 106 (ic_rs sw) μ := by
  refine ic_C.of (L := [(0, ic_rv κ.1 90)]) ⟨ic_cat _ _, trivial⟩ ⟨by decide +kernel, Nat.le_of_ble_eq_true rfl⟩ rfl ?_
  unfold fX9_judge at hf
  refine iw_iconst (i := 0) (v := (0 : Int32)) (pc' := 1) (by decide +kernel) ?_
  refine iw_istore_n0 (i := 1) (pc' := 2) (L' := [(0, ic_rv κ.1 90), (1, .int (0 : Int32))]) rfl (by decide +kernel) ?_
  obtain ⟨q25, hf, hgq25⟩ := ic_bd hf
  refine iw_sub [0, 1] rfl (lpX9_judge_2_ok l κ sw μ (R := q25) (fun t26 e => ?_) (fun v e => ?_) 1000 (0 : Int32) hf)
  · subst e
    simp only [Sum.elim_inl] at hgq25
    have hf := hgq25
    refine iw_iconst (i := (-1)) (v := (-1 : Int32)) (pc' := 45) (by decide +kernel) ?_
    exact iw_ireturn (Option.some.inj hf) rfl rfl (by decide +kernel)
  · subst e
    simp only [Sum.elim_inr] at hgq25
    exact Option.some.inj hgq25
