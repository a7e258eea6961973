def MX8_tear : ic_Md := (yX8_tear, cX8_tear, 2, (some .int), { frames := 0, cells := 0, slots := 0, locals := 0 })
theorem mv_X8_tear : ic_MV MX8_tear := ⟨ic_in 858 (by decide +kernel), ic_in 859 (by decide +kernel), ic_in 70 (by decide +kernel), ic_in 860 (by decide +kernel), by decide +kernel, by decide +kernel⟩
def MX8_judge : ic_Md := (yX8_judge, cX8_judge, 1, (some .int), { frames := 2, cells := 0, slots := 0, locals := 43 })
theorem mv_X8_judge : ic_MV MX8_judge := ⟨ic_in 862 (by decide +kernel), ic_in 863 (by decide +kernel), ic_in 70 (by decide +kernel), ic_in 864 (by decide +kernel), by decide +kernel, by decide +kernel⟩
def MX8_seed : ic_Md := (yX8_seed, cX8_seed, 3, (some .int), { frames := 0, cells := 0, slots := 0, locals := 0 })
theorem mv_X8_seed : ic_MV MX8_seed := ⟨ic_in 871 (by decide +kernel), ic_in 872 (by decide +kernel), ic_in 70 (by decide +kernel), ic_in 873 (by decide +kernel), by decide +kernel, by decide +kernel⟩
def MX8_imageAt : ic_Md := (yX8_imageAt, cX8_imageAt, 2, (some (.object "IceLaw$Image")), { frames := 0, cells := 0, slots := 0, locals := 0 })
theorem mv_X8_imageAt : ic_MV MX8_imageAt := ⟨ic_in 880 (by decide +kernel), ic_in 25 (by decide +kernel), ic_in 70 (by decide +kernel), ic_in 881 (by decide +kernel), by decide +kernel, by decide +kernel⟩
def MX8_keep : ic_Md := (yX8_keep, cX8_keep, 3, (some .int), { frames := 2, cells := 0, slots := 0, locals := 43 })
theorem mv_X8_keep : ic_MV MX8_keep := ⟨ic_in 875 (by decide +kernel), ic_in 876 (by decide +kernel), ic_in 70 (by decide +kernel), ic_in 877 (by decide +kernel), by decide +kernel, by decide +kernel⟩
def MX8_goBack : ic_Md := (yX8_goBack, cX8_goBack, 3, (some .int), { frames := 2, cells := 0, slots := 0, locals := 43 })
theorem mv_X8_goBack : ic_MV MX8_goBack := ⟨ic_in 884 (by decide +kernel), ic_in 885 (by decide +kernel), ic_in 70 (by decide +kernel), ic_in 886 (by decide +kernel), by decide +kernel, by decide +kernel⟩
def MX9_in : ic_Md := (yX9_in, cX9_in, 3, (some .boolean), { frames := 0, cells := 0, slots := 0, locals := 0 })
theorem ms_X9_in : ic_MS MX9_in := ⟨ic_in 971 (by decide +kernel), ic_in 79 (by decide +kernel), ic_in 972 (by decide +kernel), by decide +kernel, by decide +kernel⟩
def MX9_has : ic_Md := (yX9_has, cX9_has, 2, (some .boolean), { frames := 0, cells := 0, slots := 0, locals := 0 })
theorem ms_X9_has : ic_MS MX9_has := ⟨ic_in 1125 (by decide +kernel), ic_in 79 (by decide +kernel), ic_in 1126 (by decide +kernel), by decide +kernel, by decide +kernel⟩
def MX9_ones : ic_Md := (yX9_ones, cX9_ones, 3, (some .int), { frames := 0, cells := 0, slots := 0, locals := 0 })
theorem ms_X9_ones : ic_MS MX9_ones := ⟨ic_in 1227 (by decide +kernel), ic_in 79 (by decide +kernel), ic_in 1228 (by decide +kernel), by decide +kernel, by decide +kernel⟩
def MX9_feed : ic_Md := (yX9_feed, cX9_feed, 2, (some .int), { frames := 1, cells := 0, slots := 0, locals := 22 })
theorem mv_X9_feed : ic_MV MX9_feed := ⟨ic_in 967 (by decide +kernel), ic_in 968 (by decide +kernel), ic_in 79 (by decide +kernel), ic_in 969 (by decide +kernel), by decide +kernel, by decide +kernel⟩
def MX9_look : ic_Md := (yX9_look, cX9_look, 1, (some .int), { frames := 0, cells := 0, slots := 0, locals := 0 })
theorem mv_X9_look : ic_MV MX9_look := ⟨ic_in 985 (by decide +kernel), ic_in 27 (by decide +kernel), ic_in 79 (by decide +kernel), ic_in 986 (by decide +kernel), by decide +kernel, by decide +kernel⟩
def MX9_skips : ic_Md := (yX9_skips, cX9_skips, 1, none, { frames := 1, cells := 0, slots := 0, locals := 20 })
theorem mv_X9_skips : ic_MV MX9_skips := ⟨ic_in 981 (by decide +kernel), ic_in 26 (by decide +kernel), ic_in 79 (by decide +kernel), ic_in 982 (by decide +kernel), by decide +kernel, by decide +kernel⟩
def MX9_fails : ic_Md := (yX9_fails, cX9_fails, 2, none, { frames := 0, cells := 0, slots := 0, locals := 0 })
theorem mv_X9_fails : ic_MV MX9_fails := ⟨ic_in 1001 (by decide +kernel), ic_in 31 (by decide +kernel), ic_in 79 (by decide +kernel), ic_in 1002 (by decide +kernel), by decide +kernel, by decide +kernel⟩
def MX9_word : ic_Md := (yX9_word, cX9_word, 2, none, { frames := 2, cells := 0, slots := 0, locals := 40 })
theorem mv_X9_word : ic_MV MX9_word := ⟨ic_in 1009 (by decide +kernel), ic_in 33 (by decide +kernel), ic_in 79 (by decide +kernel), ic_in 1010 (by decide +kernel), by decide +kernel, by decide +kernel⟩
def MX9_number : ic_Md := (yX9_number, cX9_number, 5, (some .int), { frames := 2, cells := 0, slots := 0, locals := 40 })
theorem mv_X9_number : ic_MV MX9_number := ⟨ic_in 1005 (by decide +kernel), ic_in 32 (by decide +kernel), ic_in 79 (by decide +kernel), ic_in 1006 (by decide +kernel), by decide +kernel, by decide +kernel⟩
def MX9_opens : ic_Md := (yX9_opens, cX9_opens, 2, (some .boolean), { frames := 1, cells := 0, slots := 0, locals := 21 })
theorem mv_X9_opens : ic_MV MX9_opens := ⟨ic_in 997 (by decide +kernel), ic_in 30 (by decide +kernel), ic_in 79 (by decide +kernel), ic_in 998 (by decide +kernel), by decide +kernel, by decide +kernel⟩
def MX9_readsRiver : ic_Md := (yX9_readsRiver, cX9_readsRiver, 1, none, { frames := 3, cells := 0, slots := 0, locals := 64 })
theorem mv_X9_readsRiver : ic_MV MX9_readsRiver := ⟨ic_in 993 (by decide +kernel), ic_in 29 (by decide +kernel), ic_in 79 (by decide +kernel), ic_in 994 (by decide +kernel), by decide +kernel, by decide +kernel⟩
def MX9_readsList : ic_Md := (yX9_readsList, cX9_readsList, 5, none, { frames := 3, cells := 0, slots := 0, locals := 64 })
theorem mv_X9_readsList : ic_MV MX9_readsList := ⟨ic_in 1013 (by decide +kernel), ic_in 34 (by decide +kernel), ic_in 79 (by decide +kernel), ic_in 1014 (by decide +kernel), by decide +kernel, by decide +kernel⟩
def MX9_readsPerson : ic_Md := (yX9_readsPerson, cX9_readsPerson, 1, none, { frames := 3, cells := 0, slots := 0, locals := 64 })
theorem mv_X9_readsPerson : ic_MV MX9_readsPerson := ⟨ic_in 1017 (by decide +kernel), ic_in 35 (by decide +kernel), ic_in 79 (by decide +kernel), ic_in 1018 (by decide +kernel), by decide +kernel, by decide +kernel⟩
def MX9_reads : ic_Md := (yX9_reads, cX9_reads, 1, none, { frames := 4, cells := 0, slots := 0, locals := 88 })
theorem mv_X9_reads : ic_MV MX9_reads := ⟨ic_in 989 (by decide +kernel), ic_in 28 (by decide +kernel), ic_in 79 (by decide +kernel), ic_in 990 (by decide +kernel), by decide +kernel, by decide +kernel⟩
def MX9_copies : ic_Md := (yX9_copies, cX9_copies, 6, none, { frames := 0, cells := 0, slots := 0, locals := 0 })
theorem ms_X9_copies : ic_MS MX9_copies := ⟨ic_in 1024 (by decide +kernel), ic_in 79 (by decide +kernel), ic_in 1025 (by decide +kernel), by decide +kernel, by decide +kernel⟩
def MX9_settles : ic_Md := (yX9_settles, cX9_settles, 2, none, { frames := 0, cells := 0, slots := 0, locals := 0 })
theorem mv_X9_settles : ic_MV MX9_settles := ⟨ic_in 1021 (by decide +kernel), ic_in 36 (by decide +kernel), ic_in 79 (by decide +kernel), ic_in 1022 (by decide +kernel), by decide +kernel, by decide +kernel⟩
theorem lkm_X8_292 : Cond.methodLink RX8 292 yX0_firstWrong ∈ ic_tb := ic_in 865 (by decide +kernel)
theorem lkf_X8_53 : Cond.fieldLink RX8 53 RX8 (TX8 6).2.1 (TX8 6).2.2.1 ∈ ic_tb := ic_in 312 (by decide +kernel)
theorem lkf_X8_300 : Cond.fieldLink RX8 300 RX2 (TX2 0).2.1 (TX2 0).2.2.1 ∈ ic_tb := ic_in 230 (by decide +kernel)
theorem lkf_X8_304 : Cond.fieldLink RX8 304 RX2 (TX2 1).2.1 (TX2 1).2.2.1 ∈ ic_tb := ic_in 231 (by decide +kernel)
theorem lkf_X8_68 : Cond.fieldLink RX8 68 RX8 (TX8 9).2.1 (TX8 9).2.2.1 ∈ ic_tb := ic_in 315 (by decide +kernel)
theorem lkm_X8_301 : Cond.methodLink RX8 301 yX1_copyFrom ∈ ic_tb := ic_in 882 (by decide +kernel)
theorem lkm_X8_296 : Cond.methodLink RX8 296 yX8_imageAt ∈ ic_tb := ic_in 878 (by decide +kernel)
theorem lkf_X9_68 : Cond.fieldLink RX9 68 RX9 (TX9 1).2.1 (TX9 1).2.2.1 ∈ ic_tb := ic_in 894 (by decide +kernel)
theorem lkf_X9_7 : Cond.fieldLink RX9 7 RX9 (TX9 0).2.1 (TX9 0).2.2.1 ∈ ic_tb := ic_in 893 (by decide +kernel)
theorem lkc_X9_71 : Cond.constant RX9 71 (-1000000004 : Int32) ∈ ic_tb := ic_in 974 (by decide +kernel)
theorem lkc_X9_67 : Cond.constant RX9 67 (-1000000002 : Int32) ∈ ic_tb := ic_in 973 (by decide +kernel)
theorem lkm_X9_63 : Cond.methodLink RX9 63 yX9_in ∈ ic_tb := ic_in 970 (by decide +kernel)
theorem lkf_X9_72 : Cond.fieldLink RX9 72 RX9 (TX9 21).2.1 (TX9 21).2.2.1 ∈ ic_tb := ic_in 914 (by decide +kernel)
theorem lkf_X9_75 : Cond.fieldLink RX9 75 RX9 (TX9 22).2.1 (TX9 22).2.2.1 ∈ ic_tb := ic_in 915 (by decide +kernel)
theorem lkm_X9_78 : Cond.methodLink RX9 78 yX9_look ∈ ic_tb := ic_in 983 (by decide +kernel)
theorem lkm_X9_85 : Cond.methodLink RX9 85 yX9_fails ∈ ic_tb := ic_in 999 (by decide +kernel)
theorem lkm_X9_82 : Cond.methodLink RX9 82 yX9_skips ∈ ic_tb := ic_in 979 (by decide +kernel)
theorem lkf_X9_26 : Cond.fieldLink RX9 26 RX9 (TX9 6).2.1 (TX9 6).2.2.1 ∈ ic_tb := ic_in 899 (by decide +kernel)
theorem lkm_X9_97 : Cond.methodLink RX9 97 yX9_word ∈ ic_tb := ic_in 1007 (by decide +kernel)
theorem lkm_X9_93 : Cond.methodLink RX9 93 yX9_number ∈ ic_tb := ic_in 1003 (by decide +kernel)
theorem lkm_X9_89 : Cond.methodLink RX9 89 yX9_opens ∈ ic_tb := ic_in 995 (by decide +kernel)
theorem lkf_X9_29 : Cond.fieldLink RX9 29 RX9 (TX9 7).2.1 (TX9 7).2.2.1 ∈ ic_tb := ic_in 900 (by decide +kernel)
theorem lkf_X9_32 : Cond.fieldLink RX9 32 RX9 (TX9 8).2.1 (TX9 8).2.2.1 ∈ ic_tb := ic_in 901 (by decide +kernel)
theorem lkm_X9_107 : Cond.methodLink RX9 107 yX9_readsPerson ∈ ic_tb := ic_in 1015 (by decide +kernel)
theorem lkm_X9_103 : Cond.methodLink RX9 103 yX9_readsList ∈ ic_tb := ic_in 1011 (by decide +kernel)
theorem lkm_X9_100 : Cond.methodLink RX9 100 yX9_readsRiver ∈ ic_tb := ic_in 991 (by decide +kernel)
def fX8_tear (sw : Nat) (μ : ic_M) : Option (Int32 × ic_M) := ic_lt (((μ 61 4) + (μ 66 2))) (fun x21 => ic_pu μ 61 4 (0 : Int32) (fun m22 => ic_pu m22 66 2 (0 : Int32) (fun m23 => some (x21, m23))))
def fX8_judge (sw : Nat) (μ : ic_M) : Option (Int32) := Option.bind (fX0_firstWrong μ 4) (fun v21 => some v21)
def fX8_seed (sw : Nat) (μ : ic_M) (x1 : Int32) : Option (Int32 × ic_M) := (if 0 ≤ x1 then ic_lt ((μ 1 10)) (fun x21 => ic_pu μ 1 10 x1 (fun m22 => some (x21, m22))) else some ((-1000000002 : Int32), μ))
def fX8_imageAt (sw : Nat) (μ : ic_M) (x1 : Int32) : Option (Nat) := Option.bind (if x1 < 0 then some 0 else (if (2 : Int32) ≤ x1 then some 0 else ic_ax 2 x1 (some (70 + 4 * Int32.toNatClampNeg x1)))) (fun q21 => some q21)
def fX8_keep (sw : Nat) (μ : ic_M) (x1 : Int32) : Option (Int32 × ic_M) := Option.bind (fX8_imageAt sw μ x1) (fun v21 => (if v21 = 0 then some ((-1000000001 : Int32), μ) else ic_ck v21 2 (Option.bind (fX1_copyFrom μ (v21 + 1) 4) (fun m23 => ic_pu m23 v21 1 (m23 1 10) (fun m24 => ic_pu m24 1 9 ((m24 1 9) ||| ((1 : Int32) <<< (x1 &&& 31))) (fun m25 => ic_pu m25 7 2 (0 : Int32) (fun m26 => some ((1 : Int32), m26))))))))
def fX8_goBack (sw : Nat) (μ : ic_M) (x1 : Int32) : Option (Int32 × ic_M) := Option.bind (fX8_imageAt sw μ x1) (fun v21 => (if v21 = 0 then some ((-1000000001 : Int32), μ) else Option.bind (fX8_isIn μ (μ 1 9) x1) (fun v22 => (if v22 = 0 then some ((-1000000003 : Int32), μ) else ic_ck v21 2 (Option.bind (fX1_copyFrom μ 4 (v21 + 1)) (fun m24 => ic_pu m24 1 10 (m24 v21 1) (fun m25 => ic_pu m25 7 2 (0 : Int32) (fun m26 => some ((1 : Int32), m26)))))))))
def fX9_in (μ : ic_M) (x0 : Int32) (x1 : Int32) (x2 : Int32) : Option (Int32) := Option.bind (if x0 < x1 then some (0 : Int32) else (if x2 < x0 then some (0 : Int32) else some (1 : Int32))) (fun q21 => ic_rz q21 (some q21))
def fX9_has (μ : ic_M) (x0 : Int32) (x1 : Int32) : Option (Int32) := Option.bind (if ((x0 >>> (x1 &&& 31)) &&& (1 : Int32)) = (1 : Int32) then some (1 : Int32) else some (0 : Int32)) (fun q21 => ic_rz q21 (some q21))
def lpX9_ones_4 (μ : ic_M) (x0_ : Int32) : Nat → Int32 → Int32 → Option (Int32)
  | 0, _, _ => none
  | fu + 1, y1_, y2_ => (if (18 : Int32) ≤ y2_ then some y1_ else ic_lt ((y1_ + ((x0_ >>> (y2_ &&& 31)) &&& (1 : Int32)))) (fun x21 => ic_lt (y2_ + (1 : Int32)) (fun x22 => lpX9_ones_4 μ x0_ fu x21 x22)))
def fX9_ones (μ : ic_M) (x0 : Int32) : Option (Int32) := Option.bind (lpX9_ones_4 μ x0 1000 (0 : Int32) (0 : Int32)) (fun q23 => some q23)
def fX9_feed (μ : ic_M) (x1 : Int32) : Option (Int32 × ic_M) := Option.bind (fX9_in μ x1 (0 : Int32) (255 : Int32)) (fun v21 => (if v21 = 0 then some ((-1000000002 : Int32), μ) else (if (μ 90 1) = (240 : Int32) then some ((-1000000004 : Int32), μ) else ic_as μ 91 240 (μ 90 1) x1 (fun m22 => ic_pu m22 90 1 ((m22 90 1) + (1 : Int32)) (fun m23 => some ((m23 90 1), m23))))))
def fX9_look (μ : ic_M) : Option (Int32) := Option.bind (if (μ 90 1) ≤ (μ 90 21) then some (-1 : Int32) else ic_ag μ 91 240 (μ 90 21) (fun v22 => some v22)) (fun q21 => some q21)
def lpX9_skips_0  : Nat → ic_M → Option (ic_M)
  | 0, _ => none
  | fu + 1, μ => (if (μ 90 22) = 0 then Option.bind (fX9_look μ) (fun v21 => (if v21 = (32 : Int32) then ic_pu μ 90 21 ((μ 90 21) + (1 : Int32)) (fun m22 => lpX9_skips_0  fu m22) else some μ)) else some μ)
def fX9_skips (μ : ic_M) : Option (ic_M) := Option.bind (lpX9_skips_0  1000 μ) (fun q23 => some q23)
def fX9_fails (μ : ic_M) (x1 : Int32) : Option (ic_M) := Option.bind (if (μ 90 22) = 0 then some x1 else some (μ 90 22)) (fun q21 => ic_pu μ 90 22 q21 (fun m22 => some m22))
def fX9_word (μ : ic_M) (x1 : Int32) : Option (ic_M) := Option.bind (fX9_skips μ) (fun m21 => Option.bind (if (m21 90 22) = 0 then Option.bind (fX9_look m21) (fun v23 => (if v23 = x1 then ic_pu m21 90 21 ((m21 90 21) + (1 : Int32)) (fun m25 => some m25) else Option.bind (fX9_fails m21 (1 : Int32)) (fun m24 => some m24))) else some m21) (fun q22 => some q22))
def lpX9_number_42 (x1_ : Int32) (x2_ : Int32) (x3_ : Int32) : Nat → Int32 → ic_M → Option (Int32 × ic_M)
  | 0, _, _ => none
  | fu + 1, y4_, μ => Option.bind (fX9_look μ) (fun v25 => Option.bind (fX9_in μ v25 (48 : Int32) (57 : Int32)) (fun v26 => (if v26 = 0 then some (y4_, μ) else Option.bind (if (3 : Int32) ≤ ((μ 90 21) - x3_) then some y4_ else Option.bind (fX9_look μ) (fun v28 => some ((((10 : Int32) * y4_) + v28) - (48 : Int32)))) (fun q27 => ic_pu μ 90 21 ((μ 90 21) + (1 : Int32)) (fun m29 => lpX9_number_42 x1_ x2_ x3_ fu q27 m29)))))
def fX9_number (μ : ic_M) (x1 : Int32) (x2 : Int32) : Option (Int32 × ic_M) := Option.bind (fX9_skips μ) (fun m21 => (if (m21 90 22) = 0 then Option.bind (fX9_look m21) (fun v22 => Option.bind (fX9_in m21 v22 (48 : Int32) (57 : Int32)) (fun v23 => (if v23 = 0 then Option.bind (fX9_fails m21 (1 : Int32)) (fun m37 => some ((0 : Int32), m37)) else ic_lt ((m21 90 21)) (fun x24 => Option.bind (lpX9_number_42 x1 x2 x24 1000 (0 : Int32) m21) (fun q30 => Option.bind (if (3 : Int32) < ((q30.2 90 21) - x24) then ic_pu q30.2 90 21 x24 (fun m32 => Option.bind (fX9_fails m32 (2 : Int32)) (fun m33 => some m33)) else Option.bind (fX9_in q30.2 q30.1 x1 x2) (fun v34 => (if v34 = 0 then ic_pu q30.2 90 21 x24 (fun m35 => Option.bind (fX9_fails m35 (2 : Int32)) (fun m36 => some m36)) else some q30.2))) (fun q31 => some (q30.1, q31))))))) else some ((0 : Int32), m21)))
def fX9_opens (μ : ic_M) (x1 : Int32) : Option (Int32 × ic_M) := Option.bind (if x1 = 0 then some μ else Option.bind (fX9_fails μ (3 : Int32)) (fun m22 => some m22)) (fun q21 => Option.bind (if x1 = 0 then some (1 : Int32) else some (0 : Int32)) (fun q23 => ic_pu q21 90 21 ((q21 90 21) + q23) (fun m24 => Option.bind (if x1 = 0 then some (1 : Int32) else some (0 : Int32)) (fun q25 => ic_rz q25 (some (q25, m24))))))
def fX9_readsRiver (μ : ic_M) : Option (ic_M) := ic_ag μ 95 7 (0 : Int32) (fun v21 => Option.bind (if v21 ≤ 0 then some (0 : Int32) else some (1 : Int32)) (fun q22 => Option.bind (fX9_opens μ q22) (fun q23 => Option.bind (if q23.1 = 0 then some q23.2 else Option.bind (fX9_number q23.2 (2 : Int32) (6 : Int32)) (fun q25 => ic_as q25.2 95 7 (0 : Int32) q25.1 (fun m26 => Option.bind (fX9_number m26 (1 : Int32) (3 : Int32)) (fun q27 => ic_as q27.2 95 7 (1 : Int32) q27.1 (fun m28 => Option.bind (fX9_number m28 (1 : Int32) (30 : Int32)) (fun q29 => ic_as q29.2 95 7 (2 : Int32) q29.1 (fun m30 => Option.bind (fX9_word m30 (59 : Int32)) (fun m31 => some m31)))))))) (fun q24 => some q24))))
def lpX9_readsList_45 (x1_ : Int32) (x2_ : Int32) (x3_ : Int32) (x4_ : Int32) : Nat → ic_M → Option (ic_M)
  | 0, _ => none
  | fu + 1, μ => (if (μ 90 22) = 0 then Option.bind (fX9_look μ) (fun v29 => (if v29 = (44 : Int32) then ic_ag μ 95 7 x1_ (fun v30 => Option.bind (if v30 = x3_ then Option.bind (fX9_fails μ (1 : Int32)) (fun m38 => some m38) else ic_pu μ 90 21 ((μ 90 21) + (1 : Int32)) (fun m32 => ic_ag m32 95 7 x1_ (fun v33 => Option.bind (fX9_number m32 (0 : Int32) x4_) (fun q34 => ic_as q34.2 96 36 (x2_ + v33) q34.1 (fun m35 => ic_ag m35 95 7 x1_ (fun v36 => ic_as m35 95 7 x1_ (v36 + (1 : Int32)) (fun m37 => some m37))))))) (fun q31 => Option.bind (fX9_skips q31) (fun m39 => lpX9_readsList_45 x1_ x2_ x3_ x4_ fu m39))) else some μ)) else some μ)
def fX9_readsList (μ : ic_M) (x1 : Int32) (x2 : Int32) (x3 : Int32) (x4 : Int32) : Option (ic_M) := ic_ag μ 95 7 x1 (fun v21 => Option.bind (if v21 ≤ 0 then some (0 : Int32) else some (1 : Int32)) (fun q22 => Option.bind (fX9_opens μ q22) (fun q23 => Option.bind (if q23.1 = 0 then some q23.2 else Option.bind (fX9_number q23.2 (0 : Int32) x4) (fun q25 => ic_as q25.2 96 36 x2 q25.1 (fun m26 => ic_as m26 95 7 x1 (1 : Int32) (fun m27 => Option.bind (fX9_skips m27) (fun m28 => Option.bind (lpX9_readsList_45 x1 x2 x3 x4 1000 m28) (fun q40 => Option.bind (fX9_word q40 (59 : Int32)) (fun m41 => some m41))))))) (fun q24 => some q24))))
def fX9_readsPerson (μ : ic_M) : Option (ic_M) := ic_ag μ 95 7 (3 : Int32) (fun v21 => Option.bind (if v21 = (6 : Int32) then some (1 : Int32) else some (0 : Int32)) (fun q22 => Option.bind (fX9_opens μ q22) (fun q23 => Option.bind (if q23.1 = 0 then some q23.2 else ic_ag q23.2 95 7 (3 : Int32) (fun v25 => Option.bind (fX9_number q23.2 (0 : Int32) (1 : Int32)) (fun q26 => ic_as q26.2 97 12 ((2 : Int32) * v25) q26.1 (fun m27 => ic_ag m27 95 7 (3 : Int32) (fun v28 => Option.bind (fX9_number m27 (1 : Int32) (200 : Int32)) (fun q29 => ic_as q29.2 97 12 (((2 : Int32) * v28) + (1 : Int32)) q29.1 (fun m30 => Option.bind (fX9_word m30 (59 : Int32)) (fun m31 => ic_ag m31 95 7 (3 : Int32) (fun v32 => ic_as m31 95 7 (3 : Int32) (v32 + (1 : Int32)) (fun m33 => some m33)))))))))) (fun q24 => some q24))))
def lpX9_reads_0  : Nat → ic_M → Option (ic_M)
  | 0, _ => none
  | fu + 1, μ => (if (μ 90 22) = 0 then Option.bind (fX9_look μ) (fun v21 => (if v21 = (-1 : Int32) then some μ else Option.bind (fX9_look μ) (fun v22 => Option.bind (if v22 = (114 : Int32) then Option.bind (fX9_readsRiver μ) (fun m35 => some m35) else ic_ag μ 95 7 (0 : Int32) (fun v24 => (if v24 = 0 then Option.bind (fX9_fails μ (1 : Int32)) (fun m34 => some m34) else Option.bind (fX9_look μ) (fun v25 => (if v25 = (116 : Int32) then Option.bind (fX9_readsList μ (4 : Int32) (0 : Int32) (18 : Int32) (40 : Int32)) (fun m33 => some m33) else Option.bind (fX9_look μ) (fun v26 => (if v26 = (99 : Int32) then Option.bind (fX9_readsList μ (5 : Int32) (18 : Int32) (6 : Int32) (9 : Int32)) (fun m32 => some m32) else Option.bind (fX9_look μ) (fun v27 => (if v27 = (110 : Int32) then Option.bind (fX9_readsList μ (6 : Int32) (24 : Int32) (12 : Int32) (20 : Int32)) (fun m31 => some m31) else Option.bind (fX9_look μ) (fun v28 => (if v28 = (112 : Int32) then Option.bind (fX9_readsPerson μ) (fun m30 => some m30) else Option.bind (fX9_fails μ (1 : Int32)) (fun m29 => some m29)))))))))))) (fun q23 => Option.bind (fX9_skips q23) (fun m36 => lpX9_reads_0  fu m36))))) else some μ)
def fX9_reads (μ : ic_M) : Option (ic_M) := Option.bind (lpX9_reads_0  1000 μ) (fun q37 => some q37)
def lpX9_copies_3 (r0_ : Nat) (x1_ : Int32) (r2_ : Nat) (x3_ : Int32) (x4_ : Int32) : Nat → Int32 → ic_M → Option (ic_M)
  | 0, _, _ => none
  | fu + 1, y5_, μ => (if x4_ ≤ y5_ then some μ else ic_ag μ r0_ (ic_il 106 r0_) (x1_ + y5_) (fun v21 => ic_as μ r2_ (ic_il 106 r2_) (x3_ + y5_) v21 (fun m22 => ic_lt (y5_ + (1 : Int32)) (fun x23 => lpX9_copies_3 r0_ x1_ r2_ x3_ x4_ fu x23 m22))))
def fX9_copies (μ : ic_M) (r0 : Nat) (x1 : Int32) (r2 : Nat) (x3 : Int32) (x4 : Int32) : Option (ic_M) := Option.bind (lpX9_copies_3 r0 x1 r2 x3 x4 1000 (0 : Int32) μ) (fun q24 => some q24)
def lpX9_settles_2  : Nat → Int32 → ic_M → Option (ic_M)
  | 0, _, _ => none
  | fu + 1, y1_, μ => (if (7 : Int32) ≤ y1_ then some μ else ic_ag μ 95 7 y1_ (fun v21 => Option.bind (if v21 = 0 then Option.bind (if y1_ = (4 : Int32) then some (0 : Int32) else (if y1_ = (5 : Int32) then some (18 : Int32) else some (24 : Int32))) (fun q23 => Option.bind (if y1_ = (5 : Int32) then some (0 : Int32) else some (10 : Int32)) (fun q24 => ic_as μ 96 36 q23 q24 (fun m25 => ic_as m25 95 7 y1_ (1 : Int32) (fun m26 => some m26)))) else some μ) (fun q22 => ic_lt (y1_ + (1 : Int32)) (fun x27 => lpX9_settles_2  fu x27 q22))))
def fX9_settles (μ : ic_M) : Option (ic_M) := Option.bind (lpX9_settles_2  1000 (4 : Int32) μ) (fun q28 => some q28)
set_option maxRecDepth 100000 in
set_option maxHeartbeats 4000000 in
theorem ct_X8_tear (l : Launch) (κ : ic_K) (sw : Nat) (μ : ic_M) {R : Int32 × ic_M} (hf : fX8_tear sw μ = some R) : ic_C l κ MX8_tear [ic_rv κ.1 1] 106 (ic_rs sw) μ (some (.int R.1)) 106 (ic_rs sw) R.2 := by
  refine ic_C.of (L := [(0, ic_rv κ.1 1)]) ⟨ic_cat _ _, trivial⟩ ⟨by decide +kernel, Nat.le_of_ble_eq_true rfl⟩ rfl ?_
  unfold fX8_tear at hf
  refine iw_aload_n (i := 0) (pc' := 1) 0 rfl (by decide +kernel) ?_
  refine iw_getr (pc' := 4) (q := 61) ic_fk8 cO_1 rfl lkf_X8_40 (by decide +kernel) ?_
  refine iw_geti (pc' := 7) ic_fk6 cO_61 lkf_X8_105 (by decide +kernel) ?_
  refine iw_aload_n (i := 0) (pc' := 8) 0 rfl (by decide +kernel) ?_
  refine iw_getr (pc' := 11) (q := 66) ic_fk8 cO_1 rfl lkf_X8_47 (by decide +kernel) ?_
  refine iw_geti (pc' := 14) ic_fk0 cO_66 lkf_X8_106 (by decide +kernel) ?_
  refine iw_iadd (pc' := 15) (by decide +kernel) ?_
  refine iw_istore_n (i := 1) (pc' := 16) (L1 := fun x21 => [(0, ic_rv κ.1 1), (1, .int x21)]) hf (fun _ => rfl) (by decide +kernel) (fun x21 hf => ?_)
  refine iw_aload_n (i := 0) (pc' := 17) 0 rfl (by decide +kernel) ?_
  refine iw_getr (pc' := 20) (q := 61) ic_fk8 cO_1 rfl lkf_X8_40 (by decide +kernel) ?_
  refine iw_iconst (i := 0) (v := (0 : Int32)) (pc' := 21) (by decide +kernel) ?_
  refine iw_put (pc' := 24) hf ic_fk6 cO_61 lkf_X8_105 (by decide +kernel) (fun m22 hf => ?_)
  refine iw_aload_n (i := 0) (pc' := 25) 0 rfl (by decide +kernel) ?_
  refine iw_getr (pc' := 28) (q := 66) ic_fk8 cO_1 rfl lkf_X8_47 (by decide +kernel) ?_
  refine iw_iconst (i := 0) (v := (0 : Int32)) (pc' := 29) (by decide +kernel) ?_
  refine iw_put (pc' := 32) hf ic_fk0 cO_66 lkf_X8_106 (by decide +kernel) (fun m23 hf => ?_)
  refine iw_iload_n (i := 1) (pc' := 33) 1 rfl (by decide +kernel) ?_
  exact iw_ireturn (ic_q1 (Option.some.inj hf)) rfl (ic_q2 (Option.some.inj hf)) (by decide +kernel)
set_option maxRecDepth 100000 in
set_option maxHeartbeats 4000000 in
theorem ct_X8_judge (l : Launch) (κ : ic_K) (sw : Nat) (μ : ic_M) {R : Int32} (hf : fX8_judge sw μ = some R) : ic_C l κ MX8_judge [ic_rv κ.1 1] 106 (ic_rs sw) μ (some (.int R)) 106 (ic_rs sw) μ := by
  refine ic_C.of (L := [(0, ic_rv κ.1 1)]) ⟨ic_cat _ _, trivial⟩ ⟨by decide +kernel, Nat.le_of_ble_eq_true rfl⟩ rfl ?_
  unfold fX8_judge at hf
  refine iw_aload_n (i := 0) (pc' := 1) 0 rfl (by decide +kernel) ?_
  refine iw_getr (pc' := 4) (q := 66) ic_fk8 cO_1 rfl lkf_X8_47 (by decide +kernel) ?_
  refine iw_aload_n (i := 0) (pc' := 5) 0 rfl (by decide +kernel) ?_
  refine iw_getr (pc' := 8) (q := 4) ic_fk8 cO_1 rfl lkf_X8_19 (by decide +kernel) ?_
  obtain ⟨v21, hc, hf⟩ := ic_bd hf
  refine iw_callV (pc' := 11) (S0 := []) (S1 := [.int v21]) (c1 := 0) (s1 := 0) (k := 1) (ct_X0_firstWrong l κ sw μ 4 cO_4 hc) cO_66 ⟨rfl, rfl⟩ mv_X0_firstWrong lkm_X8_292 ⟨rfl, rfl⟩ (ic_sum8 trivial (Nat.le_of_ble_eq_true rfl)) (by unfold ic_rm; decide +kernel) ⟨rfl, rfl, rfl⟩ ⟨Nat.le_of_ble_eq_true rfl, Nat.le_of_ble_eq_true rfl⟩ ?_
  exact iw_ireturn (Option.some.inj hf) rfl rfl (by decide +kernel)
set_option maxRecDepth 100000 in
set_option maxHeartbeats 4000000 in
theorem ct_X8_seed (l : Launch) (κ : ic_K) (sw : Nat) (μ : ic_M) (x1 : Int32) {R : Int32 × ic_M} (hf : fX8_seed sw μ x1 = some R) : ic_C l κ MX8_seed [ic_rv κ.1 1, .int x1] 106 (ic_rs sw) μ (some (.int R.1)) 106 (ic_rs sw) R.2 := by
  refine ic_C.of (L := [(0, ic_rv κ.1 1), (1, .int x1)]) ⟨ic_cat _ _, rfl, trivial⟩ ⟨by decide +kernel, Nat.le_of_ble_eq_true rfl⟩ rfl ?_
  unfold fX8_seed at hf
  refine iw_iload_n (i := 1) (pc' := 1) 1 rfl (by decide +kernel) ?_
  refine iw_if_ge (off := 6) (tg := 7) (pc' := 4) hf (by decide +kernel) (fun hf => ?_) (fun hf => ?_)
  · refine iw_aload_n (i := 0) (pc' := 8) 0 rfl (by decide +kernel) ?_
    refine iw_geti (pc' := 11) ic_fk8 cO_1 lkf_X8_72 (by decide +kernel) ?_
    refine iw_istore_n (i := 2) (pc' := 12) (L1 := fun x21 => [(0, ic_rv κ.1 1), (1, .int x1), (2, .int x21)]) hf (fun _ => rfl) (by decide +kernel) (fun x21 hf => ?_)
    refine iw_aload_n (i := 0) (pc' := 13) 0 rfl (by decide +kernel) ?_
    refine iw_iload_n (i := 1) (pc' := 14) 1 rfl (by decide +kernel) ?_
    refine iw_put (pc' := 17) hf ic_fk8 cO_1 lkf_X8_72 (by decide +kernel) (fun m22 hf => ?_)
    refine iw_iload_n (i := 2) (pc' := 18) 2 rfl (by decide +kernel) ?_
    exact iw_ireturn (ic_q1 (Option.some.inj hf)) rfl (ic_q2 (Option.some.inj hf)) (by decide +kernel)
  · refine iw_ldc (pc' := 6) lkc_X8_82 (by decide +kernel) ?_
    exact iw_ireturn (ic_q1 (Option.some.inj hf)) rfl (ic_q2 (Option.some.inj hf)) (by decide +kernel)
set_option maxRecDepth 100000 in
set_option maxHeartbeats 4000000 in
theorem ct_X8_imageAt (l : Launch) (κ : ic_K) (sw : Nat) (μ : ic_M) (x1 : Int32) {R : Nat} (hf : fX8_imageAt sw μ x1 = some R) : ic_C l κ MX8_imageAt [ic_rv κ.1 1, .int x1] 106 (ic_rs sw) μ (some (ic_rv κ.1 R)) 106 (ic_rs sw) μ := by
  refine ic_C.of (L := [(0, ic_rv κ.1 1), (1, .int x1)]) ⟨ic_cat _ _, rfl, trivial⟩ ⟨by decide +kernel, Nat.le_of_ble_eq_true rfl⟩ rfl ?_
  unfold fX8_imageAt at hf
  refine iw_iload_n (i := 1) (pc' := 1) 1 rfl (by decide +kernel) ?_
  obtain ⟨q21, hf, hgq21⟩ := ic_bd hf
  have hjq21 : ic_W l κ MX8_imageAt ic_X0 (ic_Z κ MX8_imageAt (some (ic_rv κ.1 R)) 106 (ic_rs sw) μ) 23 [] [ic_rv κ.1 q21] 106 (ic_rs sw) μ 0 0 := by
    have hf := hgq21
    exact iw_areturn (C := "IceLaw$Image") (Option.some.inj hf) rfl rfl (by decide +kernel)
  refine iw_if_lt (off := 21) (tg := 22) (pc' := 4) hf (by decide +kernel) (fun hf => ?_) (fun hf => ?_)
  · refine iw_null (pc' := 23) (by decide +kernel) ?_
    obtain rfl := Option.some.inj hf
    exact iw_sub [] rfl hjq21
  · refine iw_iload_n (i := 1) (pc' := 5) 1 rfl (by decide +kernel) ?_
    refine iw_aload_n (i := 0) (pc' := 6) 0 rfl (by decide +kernel) ?_
    refine iw_getr (pc' := 9) (q := 69) ic_fk8 cO_1 rfl lkf_X8_53 (by decide +kernel) ?_
    refine iw_qlen (pc' := 10) (v := (2 : Int32)) cQ_69 rfl (by decide +kernel) ?_
    refine iw_icmp_ge (off := 12) (tg := 22) (pc' := 13) hf (by decide +kernel) (fun hf => ?_) (fun hf => ?_)
    · refine iw_null (pc' := 23) (by decide +kernel) ?_
      obtain rfl := Option.some.inj hf
      exact iw_sub [] rfl hjq21
    · refine iw_aload_n (i := 0) (pc' := 14) 0 rfl (by decide +kernel) ?_
      refine iw_getr (pc' := 17) (q := 69) ic_fk8 cO_1 rfl lkf_X8_53 (by decide +kernel) ?_
      refine iw_iload_n (i := 1) (pc' := 18) 1 rfl (by decide +kernel) ?_
      refine iw_qald (pc' := 19) (q := (70 + 4 * Int32.toNatClampNeg x1)) hf cQ_69 (fun _ => rfl) (by decide +kernel) (fun hf _ => ?_)
      refine iw_goto (off := 4) (pc' := 23) (by decide +kernel) ?_
      obtain rfl := Option.some.inj hf
      exact iw_sub [] rfl hjq21
set_option maxRecDepth 100000 in
set_option maxHeartbeats 4000000 in
theorem ct_X8_keep (l : Launch) (κ : ic_K) (sw : Nat) (μ : ic_M) (x1 : Int32) {R : Int32 × ic_M} (hf : fX8_keep sw μ x1 = some R) : ic_C l κ MX8_keep [ic_rv κ.1 1, .int x1] 106 (ic_rs sw) μ (some (.int R.1)) 106 (ic_rs sw) R.2 := by
  refine ic_C.of (L := [(0, ic_rv κ.1 1), (1, .int x1)]) ⟨ic_cat _ _, rfl, trivial⟩ ⟨by decide +kernel, Nat.le_of_ble_eq_true rfl⟩ rfl ?_
  unfold fX8_keep at hf
  refine iw_aload_n (i := 0) (pc' := 1) 0 rfl (by decide +kernel) ?_
  refine iw_iload_n (i := 1) (pc' := 2) 1 rfl (by decide +kernel) ?_
  obtain ⟨v21, hc, hf⟩ := ic_bd hf
  refine iw_callV (pc' := 5) (S0 := []) (S1 := [ic_rv κ.1 v21]) (c1 := 0) (s1 := 0) (k := 1) (ct_X8_imageAt l κ sw μ x1 hc) cO_1 ⟨rfl, rfl⟩ mv_X8_imageAt lkm_X8_296 ⟨rfl, rfl⟩ (ic_sum8 trivial (Nat.le_of_ble_eq_true rfl)) (by unfold ic_rm; decide +kernel) ⟨rfl, rfl, rfl⟩ ⟨Nat.le_of_ble_eq_true rfl, Nat.le_of_ble_eq_true rfl⟩ ?_
  refine iw_astore_n (i := 2) (pc' := 6) (L' := [(0, ic_rv κ.1 1), (1, .int x1), (2, ic_rv κ.1 v21)]) rfl (by decide +kernel) ?_
  refine iw_aload_n (i := 2) (pc' := 7) 2 rfl (by decide +kernel) ?_
  refine iw_ifnonnull (off := 6) (tg := 13) (pc' := 10) hf (by decide +kernel) (fun hf => ?_) (fun hf => ?_)
  · refine iw_aload_n (i := 2) (pc' := 14) 2 rfl (by decide +kernel) ?_
    obtain ⟨h22, hf⟩ := ic_ck_of hf
    refine iw_getr (pc' := 17) (q := (v21 + 1)) ic_fk2 h22 (ic_rs_o h22 (by decide)) lkf_X8_300 (by decide +kernel) ?_
    refine iw_aload_n (i := 0) (pc' := 18) 0 rfl (by decide +kernel) ?_
    refine iw_getr (pc' := 21) (q := 4) ic_fk8 cO_1 rfl lkf_X8_19 (by decide +kernel) ?_
    obtain ⟨m23, hc, hf⟩ := ic_bd hf
    refine iw_callV (pc' := 24) (S0 := []) (S1 := []) (c1 := 0) (s1 := 0) (k := 1) (ct_X1_copyFrom l κ sw μ (v21 + 1) (ic_img1 h22) 4 cO_4 hc) (ic_img1 h22) ⟨rfl, rfl⟩ mv_X1_copyFrom lkm_X8_301 ⟨rfl, rfl⟩ (ic_sum8 trivial (Nat.le_of_ble_eq_true rfl)) (by unfold ic_rm; decide +kernel) ⟨rfl, rfl, rfl⟩ ⟨Nat.le_of_ble_eq_true rfl, Nat.le_of_ble_eq_true rfl⟩ ?_
    refine iw_aload_n (i := 2) (pc' := 25) 2 rfl (by decide +kernel) ?_
    refine iw_aload_n (i := 0) (pc' := 26) 0 rfl (by decide +kernel) ?_
    refine iw_geti (pc' := 29) ic_fk8 cO_1 lkf_X8_72 (by decide +kernel) ?_
    refine iw_put (pc' := 32) hf ic_fk2 h22 lkf_X8_304 (by decide +kernel) (fun m24 hf => ?_)
    refine iw_aload_n (i := 0) (pc' := 33) 0 rfl (by decide +kernel) ?_
    refine iw_dup (pc' := 34) (ic_cat _ _) (by decide +kernel) ?_
    refine iw_geti (pc' := 37) ic_fk8 cO_1 lkf_X8_68 (by decide +kernel) ?_
    refine iw_iconst (i := 1) (v := (1 : Int32)) (pc' := 38) (by decide +kernel) ?_
    refine iw_iload_n (i := 1) (pc' := 39) 1 rfl (by decide +kernel) ?_
    refine iw_ishl (pc' := 40) (by decide +kernel) ?_
    refine iw_ior (pc' := 41) (by decide +kernel) ?_
    refine iw_put (pc' := 44) hf ic_fk8 cO_1 lkf_X8_68 (by decide +kernel) (fun m25 hf => ?_)
    refine iw_aload_n (i := 0) (pc' := 45) 0 rfl (by decide +kernel) ?_
    refine iw_getr (pc' := 48) (q := 7) ic_fk8 cO_1 rfl lkf_X8_26 (by decide +kernel) ?_
    refine iw_iconst (i := 0) (v := (0 : Int32)) (pc' := 49) (by decide +kernel) ?_
    refine iw_put (pc' := 52) hf ic_fk3 cO_7 lkf_X8_102 (by decide +kernel) (fun m26 hf => ?_)
    refine iw_iconst (i := 1) (v := (1 : Int32)) (pc' := 53) (by decide +kernel) ?_
    exact iw_ireturn (ic_q1 (Option.some.inj hf)) rfl (ic_q2 (Option.some.inj hf)) (by decide +kernel)
  · refine iw_ldc (pc' := 12) lkc_X8_150 (by decide +kernel) ?_
    exact iw_ireturn (ic_q1 (Option.some.inj hf)) rfl (ic_q2 (Option.some.inj hf)) (by decide +kernel)
set_option maxRecDepth 100000 in
set_option maxHeartbeats 4000000 in
theorem ct_X8_goBack (l : Launch) (κ : ic_K) (sw : Nat) (μ : ic_M) (x1 : Int32) {R : Int32 × ic_M} (hf : fX8_goBack sw μ x1 = some R) : ic_C l κ MX8_goBack [ic_rv κ.1 1, .int x1] 106 (ic_rs sw) μ (some (.int R.1)) 106 (ic_rs sw) R.2 := by
  refine ic_C.of (L := [(0, ic_rv κ.1 1), (1, .int x1)]) ⟨ic_cat _ _, rfl, trivial⟩ ⟨by decide +kernel, Nat.le_of_ble_eq_true rfl⟩ rfl ?_
  unfold fX8_goBack at hf
  refine iw_aload_n (i := 0) (pc' := 1) 0 rfl (by decide +kernel) ?_
  refine iw_iload_n (i := 1) (pc' := 2) 1 rfl (by decide +kernel) ?_
  obtain ⟨v21, hc, hf⟩ := ic_bd hf
  refine iw_callV (pc' := 5) (S0 := []) (S1 := [ic_rv κ.1 v21]) (c1 := 0) (s1 := 0) (k := 1) (ct_X8_imageAt l κ sw μ x1 hc) cO_1 ⟨rfl, rfl⟩ mv_X8_imageAt lkm_X8_296 ⟨rfl, rfl⟩ (ic_sum8 trivial (Nat.le_of_ble_eq_true rfl)) (by unfold ic_rm; decide +kernel) ⟨rfl, rfl, rfl⟩ ⟨Nat.le_of_ble_eq_true rfl, Nat.le_of_ble_eq_true rfl⟩ ?_
  refine iw_astore_n (i := 2) (pc' := 6) (L' := [(0, ic_rv κ.1 1), (1, .int x1), (2, ic_rv κ.1 v21)]) rfl (by decide +kernel) ?_
  refine iw_aload_n (i := 2) (pc' := 7) 2 rfl (by decide +kernel) ?_
  refine iw_ifnonnull (off := 6) (tg := 13) (pc' := 10) hf (by decide +kernel) (fun hf => ?_) (fun hf => ?_)
  · refine iw_aload_n (i := 0) (pc' := 14) 0 rfl (by decide +kernel) ?_
    refine iw_geti (pc' := 17) ic_fk8 cO_1 lkf_X8_68 (by decide +kernel) ?_
    refine iw_iload_n (i := 1) (pc' := 18) 1 rfl (by decide +kernel) ?_
    obtain ⟨v22, hc, hf⟩ := ic_bd hf
    refine iw_callS (pc' := 21) (S0 := []) (S1 := [.int v22]) (c1 := 0) (s1 := 0) (k := 2) (ct_X8_isIn l κ sw μ (μ 1 9) x1 hc) ms_X8_isIn lkm_X8_305 ⟨rfl, rfl⟩ (ic_sum8 trivial (Nat.le_of_ble_eq_true rfl)) (by unfold ic_rm; decide +kernel) ⟨rfl, rfl, rfl⟩ ⟨Nat.le_of_ble_eq_true rfl, Nat.le_of_ble_eq_true rfl⟩ ?_
    refine iw_if_ne (off := 6) (tg := 27) (pc' := 24) hf (by decide +kernel) (fun hf => ?_) (fun hf => ?_)
    · refine iw_aload_n (i := 0) (pc' := 28) 0 rfl (by decide +kernel) ?_
      refine iw_getr (pc' := 31) (q := 4) ic_fk8 cO_1 rfl lkf_X8_19 (by decide +kernel) ?_
      refine iw_aload_n (i := 2) (pc' := 32) 2 rfl (by decide +kernel) ?_
      obtain ⟨h23, hf⟩ := ic_ck_of hf
      refine iw_getr (pc' := 35) (q := (v21 + 1)) ic_fk2 h23 (ic_rs_o h23 (by decide)) lkf_X8_300 (by decide +kernel) ?_
      obtain ⟨m24, hc, hf⟩ := ic_bd hf
      refine iw_callV (pc' := 38) (S0 := []) (S1 := []) (c1 := 0) (s1 := 0) (k := 1) (ct_X1_copyFrom l κ sw μ 4 cO_4 (v21 + 1) (ic_img1 h23) hc) cO_4 ⟨rfl, rfl⟩ mv_X1_copyFrom lkm_X8_301 ⟨rfl, rfl⟩ (ic_sum8 trivial (Nat.le_of_ble_eq_true rfl)) (by unfold ic_rm; decide +kernel) ⟨rfl, rfl, rfl⟩ ⟨Nat.le_of_ble_eq_true rfl, Nat.le_of_ble_eq_true rfl⟩ ?_
      refine iw_aload_n (i := 0) (pc' := 39) 0 rfl (by decide +kernel) ?_
      refine iw_aload_n (i := 2) (pc' := 40) 2 rfl (by decide +kernel) ?_
      refine iw_geti (pc' := 43) ic_fk2 h23 lkf_X8_304 (by decide +kernel) ?_
      refine iw_put (pc' := 46) hf ic_fk8 cO_1 lkf_X8_72 (by decide +kernel) (fun m25 hf => ?_)
      refine iw_aload_n (i := 0) (pc' := 47) 0 rfl (by decide +kernel) ?_
      refine iw_getr (pc' := 50) (q := 7) ic_fk8 cO_1 rfl lkf_X8_26 (by decide +kernel) ?_
      refine iw_iconst (i := 0) (v := (0 : Int32)) (pc' := 51) (by decide +kernel) ?_
      refine iw_put (pc' := 54) hf ic_fk3 cO_7 lkf_X8_102 (by decide +kernel) (fun m26 hf => ?_)
      refine iw_iconst (i := 1) (v := (1 : Int32)) (pc' := 55) (by decide +kernel) ?_
      exact iw_ireturn (ic_q1 (Option.some.inj hf)) rfl (ic_q2 (Option.some.inj hf)) (by decide +kernel)
    · refine iw_ldc (pc' := 26) lkc_X8_187 (by decide +kernel) ?_
      exact iw_ireturn (ic_q1 (Option.some.inj hf)) rfl (ic_q2 (Option.some.inj hf)) (by decide +kernel)
  · refine iw_ldc (pc' := 12) lkc_X8_150 (by decide +kernel) ?_
    exact iw_ireturn (ic_q1 (Option.some.inj hf)) rfl (ic_q2 (Option.some.inj hf)) (by decide +kernel)
set_option maxRecDepth 100000 in
set_option maxHeartbeats 4000000 in
theorem ct_X9_in (l : Launch) (κ : ic_K) (sw : Nat) (μ : ic_M) (x0 : Int32) (x1 : Int32) (x2 : Int32) {R : Int32} (hf : fX9_in μ x0 x1 x2 = some R) : ic_C l κ MX9_in [.int x0, .int x1, .int x2] 106 (ic_rs sw) μ (some (.int R)) 106 (ic_rs sw) μ := by
  refine ic_C.of (L := [(0, .int x0), (1, .int x1), (2, .int x2)]) ⟨rfl, rfl, rfl, trivial⟩ ⟨by decide +kernel, Nat.le_of_ble_eq_true rfl⟩ rfl ?_
  unfold fX9_in at hf
  refine iw_iload_n (i := 0) (pc' := 1) 0 rfl (by decide +kernel) ?_
  refine iw_iload_n (i := 1) (pc' := 2) 1 rfl (by decide +kernel) ?_
  obtain ⟨q21, hf, hgq21⟩ := ic_bd hf
  have hjq21 : ic_W l κ MX9_in ic_X0 (ic_Z κ MX9_in (some (.int R)) 106 (ic_rs sw) μ) 15 [] [.int q21] 106 (ic_rs sw) μ 0 0 := by
    have hf := hgq21
    obtain ⟨hb, hf⟩ := ic_rz_of hf
    exact iw_zreturn hb (Option.some.inj hf) rfl rfl (by decide +kernel)
  refine iw_icmp_lt (off := 12) (tg := 14) (pc' := 5) hf (by decide +kernel) (fun hf => ?_) (fun hf => ?_)
  · refine iw_iconst (i := 0) (v := (0 : Int32)) (pc' := 15) (by decide +kernel) ?_
    obtain rfl := Option.some.inj hf
    exact iw_sub [] rfl hjq21
  · refine iw_iload_n (i := 0) (pc' := 6) 0 rfl (by decide +kernel) ?_
    refine iw_iload_n (i := 2) (pc' := 7) 2 rfl (by decide +kernel) ?_
    refine iw_icmp_gt (off := 7) (tg := 14) (pc' := 10) hf (by decide +kernel) (fun hf => ?_) (fun hf => ?_)
    · refine iw_iconst (i := 0) (v := (0 : Int32)) (pc' := 15) (by decide +kernel) ?_
      obtain rfl := Option.some.inj hf
      exact iw_sub [] rfl hjq21
    · refine iw_iconst (i := 1) (v := (1 : Int32)) (pc' := 11) (by decide +kernel) ?_
      refine iw_goto (off := 4) (pc' := 15) (by decide +kernel) ?_
      obtain rfl := Option.some.inj hf
      exact iw_sub [] rfl hjq21
set_option maxRecDepth 100000 in
set_option maxHeartbeats 4000000 in
theorem ct_X9_has (l : Launch) (κ : ic_K) (sw : Nat) (μ : ic_M) (x0 : Int32) (x1 : Int32) {R : Int32} (hf : fX9_has μ x0 x1 = some R) : ic_C l κ MX9_has [.int x0, .int x1] 106 (ic_rs sw) μ (some (.int R)) 106 (ic_rs sw) μ := by
  refine ic_C.of (L := [(0, .int x0), (1, .int x1)]) ⟨rfl, rfl, trivial⟩ ⟨by decide +kernel, Nat.le_of_ble_eq_true rfl⟩ rfl ?_
  unfold fX9_has at hf
  refine iw_iload_n (i := 0) (pc' := 1) 0 rfl (by decide +kernel) ?_
  refine iw_iload_n (i := 1) (pc' := 2) 1 rfl (by decide +kernel) ?_
  refine iw_ishr (pc' := 3) (by decide +kernel) ?_
  refine iw_iconst (i := 1) (v := (1 : Int32)) (pc' := 4) (by decide +kernel) ?_
  refine iw_iand (pc' := 5) (by decide +kernel) ?_
  refine iw_iconst (i := 1) (v := (1 : Int32)) (pc' := 6) (by decide +kernel) ?_
  obtain ⟨q21, hf, hgq21⟩ := ic_bd hf
  have hjq21 : ic_W l κ MX9_has ic_X0 (ic_Z κ MX9_has (some (.int R)) 106 (ic_rs sw) μ) 14 [] [.int q21] 106 (ic_rs sw) μ 0 0 := by
    have hf := hgq21
    obtain ⟨hb, hf⟩ := ic_rz_of hf
    exact iw_zreturn hb (Option.some.inj hf) rfl rfl (by decide +kernel)
  refine iw_icmp_ne (off := 7) (tg := 13) (pc' := 9) hf (by decide +kernel) (fun hf => ?_) (fun hf => ?_)
  · refine iw_iconst (i := 0) (v := (0 : Int32)) (pc' := 14) (by decide +kernel) ?_
    obtain rfl := Option.some.inj hf
    exact iw_sub [] rfl hjq21
  · refine iw_iconst (i := 1) (v := (1 : Int32)) (pc' := 10) (by decide +kernel) ?_
    refine iw_goto (off := 4) (pc' := 14) (by decide +kernel) ?_
    obtain rfl := Option.some.inj hf
    exact iw_sub [] rfl hjq21
set_option maxRecDepth 100000 in
set_option maxHeartbeats 4000000 in
theorem lpX9_ones_4_ok (l : Launch) (κ : ic_K) (sw : Nat) (μ : ic_M) (x0_ : Int32) {Z : State → List Frame → Array Value → State → Prop} {R : Int32} (hk : ic_W l κ MX9_ones ic_X0 Z 24 [(1, .int R)] [] 106 (ic_rs sw) μ 0 0) : ∀ (fu : Nat) (y1_ : Int32) (y2_ : Int32), lpX9_ones_4 μ x0_ fu y1_ y2_ = some R → ic_W l κ MX9_ones ic_X0 Z 4 [(0, .int x0_), (1, .int y1_), (2, .int y2_)] [] 106 (ic_rs sw) μ 0 0 := by
  intro fu
  induction fu with
  | zero =>
    intro y1_ y2_ hf
    exact absurd hf (by simp [lpX9_ones_4])
  | succ fu ih =>
    intro y1_ y2_ hf
    rw [lpX9_ones_4] at hf
    refine iw_iload_n (i := 2) (pc' := 5) 2 rfl (by decide +kernel) ?_
    refine iw_bipush (i := 18) (v := (18 : Int32)) (pc' := 7) (by decide +kernel) ?_
    refine iw_icmp_ge (off := 17) (tg := 24) (pc' := 10) hf (by decide +kernel) (fun hf => ?_) (fun hf => ?_)
    · obtain rfl := Option.some.inj hf
      exact iw_sub [1] rfl hk
    · refine iw_iload_n (i := 1) (pc' := 11) 1 rfl (by decide +kernel) ?_
      refine iw_iload_n (i := 0) (pc' := 12) 0 rfl (by decide +kernel) ?_
      refine iw_iload_n (i := 2) (pc' := 13) 2 rfl (by decide +kernel) ?_
      refine iw_ishr (pc' := 14) (by decide +kernel) ?_
      refine iw_iconst (i := 1) (v := (1 : Int32)) (pc' := 15) (by decide +kernel) ?_
      refine iw_iand (pc' := 16) (by decide +kernel) ?_
      refine iw_iadd (pc' := 17) (by decide +kernel) ?_
      refine iw_istore_n (i := 1) (pc' := 18) (L1 := fun x21 => [(0, .int x0_), (1, .int x21), (2, .int y2_)]) hf (fun _ => rfl) (by decide +kernel) (fun x21 hf => ?_)
      refine iw_iinc (i := 2) (d := 1) (pc' := 21) (v := (1 : Int32)) (L1 := fun x22 => [(0, .int x0_), (1, .int x21), (2, .int x22)]) hf 2 rfl (fun _ => rfl) (by decide +kernel) (fun x22 hf => ?_)
      refine iw_goto (off := (-17)) (pc' := 4) (by decide +kernel) ?_
      exact iw_sub [0, 1, 2] rfl (ih _ _ hf)
set_option maxRecDepth 100000 in
set_option maxHeartbeats 4000000 in
theorem ct_X9_ones (l : Launch) (κ : ic_K) (sw : Nat) (μ : ic_M) (x0 : Int32) {R : Int32} (hf : fX9_ones μ x0 = some R) : ic_C l κ MX9_ones [.int x0] 106 (ic_rs sw) μ (some (.int R)) 106 (ic_rs sw) μ := by
  refine ic_C.of (L := [(0, .int x0)]) ⟨rfl, trivial⟩ ⟨by decide +kernel, Nat.le_of_ble_eq_true rfl⟩ rfl ?_
  unfold fX9_ones at hf
  refine iw_iconst (i := 0) (v := (0 : Int32)) (pc' := 1) (by decide +kernel) ?_
  refine iw_istore_n0 (i := 1) (pc' := 2) (L' := [(0, .int x0), (1, .int (0 : Int32))]) rfl (by decide +kernel) ?_
  refine iw_iconst (i := 0) (v := (0 : Int32)) (pc' := 3) (by decide +kernel) ?_
  refine iw_istore_n0 (i := 2) (pc' := 4) (L' := [(0, .int x0), (1, .int (0 : Int32)), (2, .int (0 : Int32))]) rfl (by decide +kernel) ?_
  obtain ⟨q23, hf, hgq23⟩ := ic_bd hf
  have hjq23 : ic_W l κ MX9_ones ic_X0 (ic_Z κ MX9_ones (some (.int R)) 106 (ic_rs sw) μ) 24 [(1, .int q23)] [] 106 (ic_rs sw) μ 0 0 := by
    have hf := hgq23
    refine iw_iload_n (i := 1) (pc' := 25) 0 rfl (by decide +kernel) ?_
    exact iw_ireturn (Option.some.inj hf) rfl rfl (by decide +kernel)
  exact iw_sub [0, 1, 2] rfl (lpX9_ones_4_ok l κ sw μ x0 hjq23 1000 (0 : Int32) (0 : Int32) hf)
set_option maxRecDepth 100000 in
set_option maxHeartbeats 4000000 in
theorem ct_X9_feed (l : Launch) (κ : ic_K) (sw : Nat) (μ : ic_M) (x1 : Int32) {R : Int32 × ic_M} (hf : fX9_feed μ x1 = some R) : ic_C l κ MX9_feed [ic_rv κ.1 90, .int x1] 106 (ic_rs sw) μ (some (.int R.1)) 106 (ic_rs sw) R.2 := by
  refine ic_C.of (L := [(0, ic_rv κ.1 90), (1, .int x1)]) ⟨ic_cat _ _, rfl, trivial⟩ ⟨by decide +kernel, Nat.le_of_ble_eq_true rfl⟩ rfl ?_
  unfold fX9_feed at hf
  refine iw_iload_n (i := 1) (pc' := 1) 1 rfl (by decide +kernel) ?_
  refine iw_iconst (i := 0) (v := (0 : Int32)) (pc' := 2) (by decide +kernel) ?_
  refine iw_sipush (i := 255) (v := (255 : Int32)) (pc' := 5) (by decide +kernel) ?_
  obtain ⟨v21, hc, hf⟩ := ic_bd hf
  refine iw_callS (pc' := 8) (S0 := []) (S1 := [.int v21]) (c1 := 0) (s1 := 0) (k := 3) (ct_X9_in l κ sw μ x1 (0 : Int32) (255 : Int32) hc) ms_X9_in lkm_X9_63 ⟨rfl, rfl⟩ (ic_sum8 trivial (Nat.le_of_ble_eq_true rfl)) (by unfold ic_rm; decide +kernel) ⟨rfl, rfl, rfl⟩ ⟨Nat.le_of_ble_eq_true rfl, Nat.le_of_ble_eq_true rfl⟩ ?_
  refine iw_if_ne (off := 6) (tg := 14) (pc' := 11) hf (by decide +kernel) (fun hf => ?_) (fun hf => ?_)
  · refine iw_aload_n (i := 0) (pc' := 15) 0 rfl (by decide +kernel) ?_
    refine iw_geti (pc' := 18) ic_fk9 cO_90 lkf_X9_68 (by decide +kernel) ?_
    refine iw_sipush (i := 240) (v := (240 : Int32)) (pc' := 21) (by decide +kernel) ?_
    refine iw_icmp_ne (off := 6) (tg := 27) (pc' := 24) hf (by decide +kernel) (fun hf => ?_) (fun hf => ?_)
    · refine iw_aload_n (i := 0) (pc' := 28) 0 rfl (by decide +kernel) ?_
      refine iw_getr (pc' := 31) (q := 91) ic_fk9 cO_90 rfl lkf_X9_7 (by decide +kernel) ?_
      refine iw_aload_n (i := 0) (pc' := 32) 0 rfl (by decide +kernel) ?_
      refine iw_geti (pc' := 35) ic_fk9 cO_90 lkf_X9_68 (by decide +kernel) ?_
      refine iw_iload_n (i := 1) (pc' := 36) 1 rfl (by decide +kernel) ?_
      refine iw_iast (pc' := 37) hf (fun _ => cI_91) (by decide +kernel) (fun m22 hf => ?_)
      refine iw_aload_n (i := 0) (pc' := 38) 0 rfl (by decide +kernel) ?_
      refine iw_dup (pc' := 39) (ic_cat _ _) (by decide +kernel) ?_
      refine iw_geti (pc' := 42) ic_fk9 cO_90 lkf_X9_68 (by decide +kernel) ?_
      refine iw_iconst (i := 1) (v := (1 : Int32)) (pc' := 43) (by decide +kernel) ?_
      refine iw_iadd (pc' := 44) (by decide +kernel) ?_
      refine iw_put (pc' := 47) hf ic_fk9 cO_90 lkf_X9_68 (by decide +kernel) (fun m23 hf => ?_)
      refine iw_aload_n (i := 0) (pc' := 48) 0 rfl (by decide +kernel) ?_
      refine iw_geti (pc' := 51) ic_fk9 cO_90 lkf_X9_68 (by decide +kernel) ?_
      exact iw_ireturn (ic_q1 (Option.some.inj hf)) rfl (ic_q2 (Option.some.inj hf)) (by decide +kernel)
    · refine iw_ldc (pc' := 26) lkc_X9_71 (by decide +kernel) ?_
      exact iw_ireturn (ic_q1 (Option.some.inj hf)) rfl (ic_q2 (Option.some.inj hf)) (by decide +kernel)
  · refine iw_ldc (pc' := 13) lkc_X9_67 (by decide +kernel) ?_
    exact iw_ireturn (ic_q1 (Option.some.inj hf)) rfl (ic_q2 (Option.some.inj hf)) (by decide +kernel)
set_option maxRecDepth 100000 in
set_option maxHeartbeats 4000000 in
theorem ct_X9_look (l : Launch) (κ : ic_K) (sw : Nat) (μ : ic_M) {R : Int32} (hf : fX9_look μ = some R) : ic_C l κ MX9_look [ic_rv κ.1 90] 106 (ic_rs sw) μ (some (.int R)) 106 (ic_rs sw) μ := by
  refine ic_C.of (L := [(0, ic_rv κ.1 90)]) ⟨ic_cat _ _, trivial⟩ ⟨by decide +kernel, Nat.le_of_ble_eq_true rfl⟩ rfl ?_
  unfold fX9_look at hf
  refine iw_aload_n (i := 0) (pc' := 1) 0 rfl (by decide +kernel) ?_
  refine iw_geti (pc' := 4) ic_fk9 cO_90 lkf_X9_72 (by decide +kernel) ?_
  refine iw_aload_n (i := 0) (pc' := 5) 0 rfl (by decide +kernel) ?_
  refine iw_geti (pc' := 8) ic_fk9 cO_90 lkf_X9_68 (by decide +kernel) ?_
  obtain ⟨q21, hf, hgq21⟩ := ic_bd hf
  have hjq21 : ic_W l κ MX9_look ic_X0 (ic_Z κ MX9_look (some (.int R)) 106 (ic_rs sw) μ) 24 [] [.int q21] 106 (ic_rs sw) μ 0 0 := by
    have hf := hgq21
    exact iw_ireturn (Option.some.inj hf) rfl rfl (by decide +kernel)
  refine iw_icmp_ge (off := 15) (tg := 23) (pc' := 11) hf (by decide +kernel) (fun hf => ?_) (fun hf => ?_)
  · refine iw_iconst (i := (-1)) (v := (-1 : Int32)) (pc' := 24) (by decide +kernel) ?_
    obtain rfl := Option.some.inj hf
    exact iw_sub [] rfl hjq21
  · refine iw_aload_n (i := 0) (pc' := 12) 0 rfl (by decide +kernel) ?_
    refine iw_getr (pc' := 15) (q := 91) ic_fk9 cO_90 rfl lkf_X9_7 (by decide +kernel) ?_
    refine iw_aload_n (i := 0) (pc' := 16) 0 rfl (by decide +kernel) ?_
    refine iw_geti (pc' := 19) ic_fk9 cO_90 lkf_X9_72 (by decide +kernel) ?_
    refine iw_iald (pc' := 20) hf (fun _ => cI_91) (by decide +kernel) (fun v22 hf => ?_)
    refine iw_goto (off := 4) (pc' := 24) (by decide +kernel) ?_
    obtain rfl := Option.some.inj hf
    exact iw_sub [] rfl hjq21
set_option maxRecDepth 100000 in
set_option maxHeartbeats 4000000 in
theorem lpX9_skips_0_ok (l : Launch) (κ : ic_K) (sw : Nat)  {Z : State → List Frame → Array Value → State → Prop} {R : ic_M} (hk : ic_W l κ MX9_skips ic_X0 Z 29 [] [] 106 (ic_rs sw) R 0 0) : ∀ (fu : Nat) (μ : ic_M), lpX9_skips_0  fu μ = some R → ic_W l κ MX9_skips ic_X0 Z 0 [(0, ic_rv κ.1 90)] [] 106 (ic_rs sw) μ 0 0 := by
  intro fu
  induction fu with
  | zero =>
    intro μ hf
    exact absurd hf (by simp [lpX9_skips_0])
  | succ fu ih =>
    intro μ hf
    rw [lpX9_skips_0] at hf
    refine iw_aload_n (i := 0) (pc' := 1) 0 rfl (by decide +kernel) ?_
    refine iw_geti (pc' := 4) ic_fk9 cO_90 lkf_X9_75 (by decide +kernel) ?_
    refine iw_if_ne (off := 25) (tg := 29) (pc' := 7) hf (by decide +kernel) (fun hf => ?_) (fun hf => ?_)
    · obtain rfl := Option.some.inj hf
      exact iw_sub [] rfl hk
    · refine iw_aload_n (i := 0) (pc' := 8) 0 rfl (by decide +kernel) ?_
      obtain ⟨v21, hc, hf⟩ := ic_bd hf
      refine iw_callV (pc' := 11) (S0 := []) (S1 := [.int v21]) (c1 := 0) (s1 := 0) (k := 0) (ct_X9_look l κ sw μ hc) cO_90 ⟨rfl, rfl⟩ mv_X9_look lkm_X9_78 ⟨rfl, rfl⟩ (ic_sum8 trivial (Nat.le_of_ble_eq_true rfl)) (by unfold ic_rm; decide +kernel) ⟨rfl, rfl, rfl⟩ ⟨Nat.le_of_ble_eq_true rfl, Nat.le_of_ble_eq_true rfl⟩ ?_
      refine iw_bipush (i := 32) (v := (32 : Int32)) (pc' := 13) (by decide +kernel) ?_
      refine iw_icmp_ne (off := 16) (tg := 29) (pc' := 16) hf (by decide +kernel) (fun hf => ?_) (fun hf => ?_)
      · obtain rfl := Option.some.inj hf
        exact iw_sub [] rfl hk
      · refine iw_aload_n (i := 0) (pc' := 17) 0 rfl (by decide +kernel) ?_
        refine iw_dup (pc' := 18) (ic_cat _ _) (by decide +kernel) ?_
        refine iw_geti (pc' := 21) ic_fk9 cO_90 lkf_X9_72 (by decide +kernel) ?_
        refine iw_iconst (i := 1) (v := (1 : Int32)) (pc' := 22) (by decide +kernel) ?_
        refine iw_iadd (pc' := 23) (by decide +kernel) ?_
        refine iw_put (pc' := 26) hf ic_fk9 cO_90 lkf_X9_72 (by decide +kernel) (fun m22 hf => ?_)
        refine iw_goto (off := (-26)) (pc' := 0) (by decide +kernel) ?_
        exact iw_sub [0] rfl (ih _ hf)
set_option maxRecDepth 100000 in
set_option maxHeartbeats 4000000 in
theorem ct_X9_skips (l : Launch) (κ : ic_K) (sw : Nat) (μ : ic_M) {R : ic_M} (hf : fX9_skips μ = some R) : ic_C l κ MX9_skips [ic_rv κ.1 90] 106 (ic_rs sw) μ none 106 (ic_rs sw) R := by
  refine ic_C.of (L := [(0, ic_rv κ.1 90)]) ⟨ic_cat _ _, trivial⟩ ⟨by decide +kernel, Nat.le_of_ble_eq_true rfl⟩ rfl ?_
  unfold fX9_skips at hf
  obtain ⟨q23, hf, hgq23⟩ := ic_bd hf
  have hjq23 : ic_W l κ MX9_skips ic_X0 (ic_Z κ MX9_skips none 106 (ic_rs sw) R) 29 [] [] 106 (ic_rs sw) q23 0 0 := by
    have hf := hgq23
    exact iw_vreturn rfl (Option.some.inj hf) (by decide +kernel)
  exact iw_sub [0] rfl (lpX9_skips_0_ok l κ sw  hjq23 1000 μ hf)
set_option maxRecDepth 100000 in
set_option maxHeartbeats 4000000 in
theorem ct_X9_fails (l : Launch) (κ : ic_K) (sw : Nat) (μ : ic_M) (x1 : Int32) {R : ic_M} (hf : fX9_fails μ x1 = some R) : ic_C l κ MX9_fails [ic_rv κ.1 90, .int x1] 106 (ic_rs sw) μ none 106 (ic_rs sw) R := by
  refine ic_C.of (L := [(0, ic_rv κ.1 90), (1, .int x1)]) ⟨ic_cat _ _, rfl, trivial⟩ ⟨by decide +kernel, Nat.le_of_ble_eq_true rfl⟩ rfl ?_
  unfold fX9_fails at hf
  refine iw_aload_n (i := 0) (pc' := 1) 0 rfl (by decide +kernel) ?_
  refine iw_aload_n (i := 0) (pc' := 2) 0 rfl (by decide +kernel) ?_
  refine iw_geti (pc' := 5) ic_fk9 cO_90 lkf_X9_75 (by decide +kernel) ?_
  obtain ⟨q21, hf, hgq21⟩ := ic_bd hf
  have hjq21 : ic_W l κ MX9_fails ic_X0 (ic_Z κ MX9_fails none 106 (ic_rs sw) R) 16 [] [.int q21, ic_rv κ.1 90] 106 (ic_rs sw) μ 0 0 := by
    have hf := hgq21
    refine iw_put (pc' := 19) hf ic_fk9 cO_90 lkf_X9_75 (by decide +kernel) (fun m22 hf => ?_)
    exact iw_vreturn rfl (Option.some.inj hf) (by decide +kernel)
  refine iw_if_ne (off := 7) (tg := 12) (pc' := 8) hf (by decide +kernel) (fun hf => ?_) (fun hf => ?_)
  · refine iw_aload_n (i := 0) (pc' := 13) 0 rfl (by decide +kernel) ?_
    refine iw_geti (pc' := 16) ic_fk9 cO_90 lkf_X9_75 (by decide +kernel) ?_
    obtain rfl := Option.some.inj hf
    exact iw_sub [] rfl hjq21
  · refine iw_iload_n (i := 1) (pc' := 9) 1 rfl (by decide +kernel) ?_
    refine iw_goto (off := 7) (pc' := 16) (by decide +kernel) ?_
    obtain rfl := Option.some.inj hf
    exact iw_sub [] rfl hjq21
set_option maxRecDepth 100000 in
set_option maxHeartbeats 4000000 in
theorem ct_X9_word (l : Launch) (κ : ic_K) (sw : Nat) (μ : ic_M) (x1 : Int32) {R : ic_M} (hf : fX9_word μ x1 = some R) : ic_C l κ MX9_word [ic_rv κ.1 90, .int x1] 106 (ic_rs sw) μ none 106 (ic_rs sw) R := by
  refine ic_C.of (L := [(0, ic_rv κ.1 90), (1, .int x1)]) ⟨ic_cat _ _, rfl, trivial⟩ ⟨by decide +kernel, Nat.le_of_ble_eq_true rfl⟩ rfl ?_
  unfold fX9_word at hf
  refine iw_aload_n (i := 0) (pc' := 1) 0 rfl (by decide +kernel) ?_
  obtain ⟨m21, hc, hf⟩ := ic_bd hf
  refine iw_callV (pc' := 4) (S0 := []) (S1 := []) (c1 := 0) (s1 := 0) (k := 0) (ct_X9_skips l κ sw μ hc) cO_90 ⟨rfl, rfl⟩ mv_X9_skips lkm_X9_82 ⟨rfl, rfl⟩ (ic_sum8 trivial (Nat.le_of_ble_eq_true rfl)) (by unfold ic_rm; decide +kernel) ⟨rfl, rfl, rfl⟩ ⟨Nat.le_of_ble_eq_true rfl, Nat.le_of_ble_eq_true rfl⟩ ?_
  refine iw_aload_n (i := 0) (pc' := 5) 0 rfl (by decide +kernel) ?_
  refine iw_geti (pc' := 8) ic_fk9 cO_90 lkf_X9_75 (by decide +kernel) ?_
  obtain ⟨q22, hf, hgq22⟩ := ic_bd hf
  have hjq22 : ic_W l κ MX9_word ic_X0 (ic_Z κ MX9_word none 106 (ic_rs sw) R) 37 [] [] 106 (ic_rs sw) q22 0 0 := by
    have hf := hgq22
    exact iw_vreturn rfl (Option.some.inj hf) (by decide +kernel)
  refine iw_if_ne (off := 29) (tg := 37) (pc' := 11) hf (by decide +kernel) (fun hf => ?_) (fun hf => ?_)
  · obtain rfl := Option.some.inj hf
    exact iw_sub [] rfl hjq22
  · refine iw_aload_n (i := 0) (pc' := 12) 0 rfl (by decide +kernel) ?_
    obtain ⟨v23, hc, hf⟩ := ic_bd hf
    refine iw_callV (pc' := 15) (S0 := []) (S1 := [.int v23]) (c1 := 0) (s1 := 0) (k := 0) (ct_X9_look l κ sw m21 hc) cO_90 ⟨rfl, rfl⟩ mv_X9_look lkm_X9_78 ⟨rfl, rfl⟩ (ic_sum8 trivial (Nat.le_of_ble_eq_true rfl)) (by unfold ic_rm; decide +kernel) ⟨rfl, rfl, rfl⟩ ⟨Nat.le_of_ble_eq_true rfl, Nat.le_of_ble_eq_true rfl⟩ ?_
    refine iw_iload_n (i := 1) (pc' := 16) 1 rfl (by decide +kernel) ?_
    refine iw_icmp_ne (off := 16) (tg := 32) (pc' := 19) hf (by decide +kernel) (fun hf => ?_) (fun hf => ?_)
    · refine iw_aload_n (i := 0) (pc' := 33) 0 rfl (by decide +kernel) ?_
      refine iw_iconst (i := 1) (v := (1 : Int32)) (pc' := 34) (by decide +kernel) ?_
      obtain ⟨m24, hc, hf⟩ := ic_bd hf
      refine iw_callV (pc' := 37) (S0 := []) (S1 := []) (c1 := 0) (s1 := 0) (k := 1) (ct_X9_fails l κ sw m21 (1 : Int32) hc) cO_90 ⟨rfl, rfl⟩ mv_X9_fails lkm_X9_85 ⟨rfl, rfl⟩ (ic_sum8 trivial (Nat.le_of_ble_eq_true rfl)) (by unfold ic_rm; decide +kernel) ⟨rfl, rfl, rfl⟩ ⟨Nat.le_of_ble_eq_true rfl, Nat.le_of_ble_eq_true rfl⟩ ?_
      obtain rfl := Option.some.inj hf
      exact iw_sub [] rfl hjq22
    · refine iw_aload_n (i := 0) (pc' := 20) 0 rfl (by decide +kernel) ?_
      refine iw_dup (pc' := 21) (ic_cat _ _) (by decide +kernel) ?_
      refine iw_geti (pc' := 24) ic_fk9 cO_90 lkf_X9_72 (by decide +kernel) ?_
      refine iw_iconst (i := 1) (v := (1 : Int32)) (pc' := 25) (by decide +kernel) ?_
      refine iw_iadd (pc' := 26) (by decide +kernel) ?_
      refine iw_put (pc' := 29) hf ic_fk9 cO_90 lkf_X9_72 (by decide +kernel) (fun m25 hf => ?_)
      refine iw_goto (off := 8) (pc' := 37) (by decide +kernel) ?_
      obtain rfl := Option.some.inj hf
      exact iw_sub [] rfl hjq22
set_option maxRecDepth 100000 in
set_option maxHeartbeats 4000000 in
theorem lpX9_number_42_ok (l : Launch) (κ : ic_K) (sw : Nat) (x1_ : Int32) (x2_ : Int32) (x3_ : Int32) {Z : State → List Frame → Array Value → State → Prop} {R : Int32 × ic_M} (hk : ic_W l κ MX9_number ic_X0 Z 99 [(0, ic_rv κ.1 90), (1, .int x1_), (2, .int x2_), (3, .int x3_), (4, .int R.1)] [] 106 (ic_rs sw) R.2 0 0) : ∀ (fu : Nat) (y4_ : Int32) (μ : ic_M), lpX9_number_42 x1_ x2_ x3_ fu y4_ μ = some R → ic_W l κ MX9_number ic_X0 Z 42 [(0, ic_rv κ.1 90), (1, .int x1_), (2, .int x2_), (3, .int x3_), (4, .int y4_)] [] 106 (ic_rs sw) μ 0 0 := by
  intro fu
  induction fu with
  | zero =>
    intro y4_ μ hf
    exact absurd hf (by simp [lpX9_number_42])
  | succ fu ih =>
    intro y4_ μ hf
    rw [lpX9_number_42] at hf
    refine iw_aload_n (i := 0) (pc' := 43) 0 rfl (by decide +kernel) ?_
    obtain ⟨v25, hc, hf⟩ := ic_bd hf
    refine iw_callV (pc' := 46) (S0 := []) (S1 := [.int v25]) (c1 := 0) (s1 := 0) (k := 0) (ct_X9_look l κ sw μ hc) cO_90 ⟨rfl, rfl⟩ mv_X9_look lkm_X9_78 ⟨rfl, rfl⟩ (ic_sum8 trivial (Nat.le_of_ble_eq_true rfl)) (by unfold ic_rm; decide +kernel) ⟨rfl, rfl, rfl⟩ ⟨Nat.le_of_ble_eq_true rfl, Nat.le_of_ble_eq_true rfl⟩ ?_
    refine iw_bipush (i := 48) (v := (48 : Int32)) (pc' := 48) (by decide +kernel) ?_
    refine iw_bipush (i := 57) (v := (57 : Int32)) (pc' := 50) (by decide +kernel) ?_
    obtain ⟨v26, hc, hf⟩ := ic_bd hf
    refine iw_callS (pc' := 53) (S0 := []) (S1 := [.int v26]) (c1 := 0) (s1 := 0) (k := 3) (ct_X9_in l κ sw μ v25 (48 : Int32) (57 : Int32) hc) ms_X9_in lkm_X9_63 ⟨rfl, rfl⟩ (ic_sum8 trivial (Nat.le_of_ble_eq_true rfl)) (by unfold ic_rm; decide +kernel) ⟨rfl, rfl, rfl⟩ ⟨Nat.le_of_ble_eq_true rfl, Nat.le_of_ble_eq_true rfl⟩ ?_
    refine iw_if_eq (off := 46) (tg := 99) (pc' := 56) hf (by decide +kernel) (fun hf => ?_) (fun hf => ?_)
    · obtain rfl := Option.some.inj hf
      exact iw_sub [0, 1, 2, 3, 4] rfl hk
    · refine iw_aload_n (i := 0) (pc' := 57) 0 rfl (by decide +kernel) ?_
      refine iw_geti (pc' := 60) ic_fk9 cO_90 lkf_X9_72 (by decide +kernel) ?_
      refine iw_iload_n (i := 3) (pc' := 61) 3 rfl (by decide +kernel) ?_
      refine iw_isub (pc' := 62) (by decide +kernel) ?_
      refine iw_iconst (i := 3) (v := (3 : Int32)) (pc' := 63) (by decide +kernel) ?_
      obtain ⟨q27, hf, hgq27⟩ := ic_bd hf
      have hjq27 : ic_W l κ MX9_number ic_X0 Z 84 [(0, ic_rv κ.1 90), (1, .int x1_), (2, .int x2_), (3, .int x3_)] [.int q27] 106 (ic_rs sw) μ 0 0 := by
        have hf := hgq27
        refine iw_istore0 (i := 4) (pc' := 86) (L' := [(0, ic_rv κ.1 90), (1, .int x1_), (2, .int x2_), (3, .int x3_), (4, .int q27)]) rfl (by decide +kernel) ?_
        refine iw_aload_n (i := 0) (pc' := 87) 0 rfl (by decide +kernel) ?_
        refine iw_dup (pc' := 88) (ic_cat _ _) (by decide +kernel) ?_
        refine iw_geti (pc' := 91) ic_fk9 cO_90 lkf_X9_72 (by decide +kernel) ?_
        refine iw_iconst (i := 1) (v := (1 : Int32)) (pc' := 92) (by decide +kernel) ?_
        refine iw_iadd (pc' := 93) (by decide +kernel) ?_
        refine iw_put (pc' := 96) hf ic_fk9 cO_90 lkf_X9_72 (by decide +kernel) (fun m29 hf => ?_)
        refine iw_goto (off := (-54)) (pc' := 42) (by decide +kernel) ?_
        exact iw_sub [0, 1, 2, 3, 4] rfl (ih _ _ hf)
      refine iw_icmp_ge (off := 19) (tg := 82) (pc' := 66) hf (by decide +kernel) (fun hf => ?_) (fun hf => ?_)
      · refine iw_iload (i := 4) (pc' := 84) 4 rfl (by decide +kernel) ?_
        obtain rfl := Option.some.inj hf
        exact iw_sub [0, 1, 2, 3] rfl hjq27
      · refine iw_bipush (i := 10) (v := (10 : Int32)) (pc' := 68) (by decide +kernel) ?_
        refine iw_iload (i := 4) (pc' := 70) 4 rfl (by decide +kernel) ?_
        refine iw_imul (pc' := 71) (by decide +kernel) ?_
        refine iw_aload_n (i := 0) (pc' := 72) 0 rfl (by decide +kernel) ?_
        obtain ⟨v28, hc, hf⟩ := ic_bd hf
        refine iw_callV (pc' := 75) (S0 := [.int ((10 : Int32) * y4_)]) (S1 := [.int v28, .int ((10 : Int32) * y4_)]) (c1 := 0) (s1 := 0) (k := 0) (ct_X9_look l κ sw μ hc) cO_90 ⟨rfl, rfl⟩ mv_X9_look lkm_X9_78 ⟨rfl, rfl⟩ (ic_sum8 ⟨rfl, trivial⟩ (Nat.le_of_ble_eq_true rfl)) (by unfold ic_rm; decide +kernel) ⟨rfl, rfl, rfl⟩ ⟨Nat.le_of_ble_eq_true rfl, Nat.le_of_ble_eq_true rfl⟩ ?_
        refine iw_iadd (pc' := 76) (by decide +kernel) ?_
        refine iw_bipush (i := 48) (v := (48 : Int32)) (pc' := 78) (by decide +kernel) ?_
        refine iw_isub (pc' := 79) (by decide +kernel) ?_
        refine iw_goto (off := 5) (pc' := 84) (by decide +kernel) ?_
        obtain rfl := Option.some.inj hf
        exact iw_sub [0, 1, 2, 3] rfl hjq27
set_option maxRecDepth 100000 in
set_option maxHeartbeats 4000000 in
theorem ct_X9_number (l : Launch) (κ : ic_K) (sw : Nat) (μ : ic_M) (x1 : Int32) (x2 : Int32) {R : Int32 × ic_M} (hf : fX9_number μ x1 x2 = some R) : ic_C l κ MX9_number [ic_rv κ.1 90, .int x1, .int x2] 106 (ic_rs sw) μ (some (.int R.1)) 106 (ic_rs sw) R.2 := by
  refine ic_C.of (L := [(0, ic_rv κ.1 90), (1, .int x1), (2, .int x2)]) ⟨ic_cat _ _, rfl, rfl, trivial⟩ ⟨by decide +kernel, Nat.le_of_ble_eq_true rfl⟩ rfl ?_
  unfold fX9_number at hf
  refine iw_aload_n (i := 0) (pc' := 1) 0 rfl (by decide +kernel) ?_
  obtain ⟨m21, hc, hf⟩ := ic_bd hf
  refine iw_callV (pc' := 4) (S0 := []) (S1 := []) (c1 := 0) (s1 := 0) (k := 0) (ct_X9_skips l κ sw μ hc) cO_90 ⟨rfl, rfl⟩ mv_X9_skips lkm_X9_82 ⟨rfl, rfl⟩ (ic_sum8 trivial (Nat.le_of_ble_eq_true rfl)) (by unfold ic_rm; decide +kernel) ⟨rfl, rfl, rfl⟩ ⟨Nat.le_of_ble_eq_true rfl, Nat.le_of_ble_eq_true rfl⟩ ?_
  refine iw_aload_n (i := 0) (pc' := 5) 0 rfl (by decide +kernel) ?_
  refine iw_geti (pc' := 8) ic_fk9 cO_90 lkf_X9_75 (by decide +kernel) ?_
  refine iw_if_eq (off := 5) (tg := 13) (pc' := 11) hf (by decide +kernel) (fun hf => ?_) (fun hf => ?_)
  · refine iw_aload_n (i := 0) (pc' := 14) 0 rfl (by decide +kernel) ?_
    obtain ⟨v22, hc, hf⟩ := ic_bd hf
    refine iw_callV (pc' := 17) (S0 := []) (S1 := [.int v22]) (c1 := 0) (s1 := 0) (k := 0) (ct_X9_look l κ sw m21 hc) cO_90 ⟨rfl, rfl⟩ mv_X9_look lkm_X9_78 ⟨rfl, rfl⟩ (ic_sum8 trivial (Nat.le_of_ble_eq_true rfl)) (by unfold ic_rm; decide +kernel) ⟨rfl, rfl, rfl⟩ ⟨Nat.le_of_ble_eq_true rfl, Nat.le_of_ble_eq_true rfl⟩ ?_
    refine iw_bipush (i := 48) (v := (48 : Int32)) (pc' := 19) (by decide +kernel) ?_
    refine iw_bipush (i := 57) (v := (57 : Int32)) (pc' := 21) (by decide +kernel) ?_
    obtain ⟨v23, hc, hf⟩ := ic_bd hf
    refine iw_callS (pc' := 24) (S0 := []) (S1 := [.int v23]) (c1 := 0) (s1 := 0) (k := 3) (ct_X9_in l κ sw m21 v22 (48 : Int32) (57 : Int32) hc) ms_X9_in lkm_X9_63 ⟨rfl, rfl⟩ (ic_sum8 trivial (Nat.le_of_ble_eq_true rfl)) (by unfold ic_rm; decide +kernel) ⟨rfl, rfl, rfl⟩ ⟨Nat.le_of_ble_eq_true rfl, Nat.le_of_ble_eq_true rfl⟩ ?_
    refine iw_if_ne (off := 10) (tg := 34) (pc' := 27) hf (by decide +kernel) (fun hf => ?_) (fun hf => ?_)
    · refine iw_aload_n (i := 0) (pc' := 35) 0 rfl (by decide +kernel) ?_
      refine iw_geti (pc' := 38) ic_fk9 cO_90 lkf_X9_72 (by decide +kernel) ?_
      refine iw_istore_n (i := 3) (pc' := 39) (L1 := fun x24 => [(0, ic_rv κ.1 90), (1, .int x1), (2, .int x2), (3, .int x24)]) hf (fun _ => rfl) (by decide +kernel) (fun x24 hf => ?_)
      refine iw_iconst (i := 0) (v := (0 : Int32)) (pc' := 40) (by decide +kernel) ?_
      refine iw_istore0 (i := 4) (pc' := 42) (L' := [(0, ic_rv κ.1 90), (1, .int x1), (2, .int x2), (3, .int x24), (4, .int (0 : Int32))]) rfl (by decide +kernel) ?_
      obtain ⟨q30, hf, hgq30⟩ := ic_bd hf
      have hjq30 : ic_W l κ MX9_number ic_X0 (ic_Z κ MX9_number (some (.int R.1)) 106 (ic_rs sw) R.2) 99 [(0, ic_rv κ.1 90), (1, .int x1), (2, .int x2), (3, .int x24), (4, .int q30.1)] [] 106 (ic_rs sw) q30.2 0 0 := by
        have hf := hgq30
        refine iw_aload_n (i := 0) (pc' := 100) 0 rfl (by decide +kernel) ?_
        refine iw_geti (pc' := 103) ic_fk9 cO_90 lkf_X9_72 (by decide +kernel) ?_
        refine iw_iload_n (i := 3) (pc' := 104) 3 rfl (by decide +kernel) ?_
        refine iw_isub (pc' := 105) (by decide +kernel) ?_
        refine iw_iconst (i := 3) (v := (3 : Int32)) (pc' := 106) (by decide +kernel) ?_
        obtain ⟨q31, hf, hgq31⟩ := ic_bd hf
        have hjq31 : ic_W l κ MX9_number ic_X0 (ic_Z κ MX9_number (some (.int R.1)) 106 (ic_rs sw) R.2) 129 [(4, .int q30.1)] [] 106 (ic_rs sw) q31 0 0 := by
          have hf := hgq31
          refine iw_iload (i := 4) (pc' := 131) 0 rfl (by decide +kernel) ?_
          exact iw_ireturn (ic_q1 (Option.some.inj hf)) rfl (ic_q2 (Option.some.inj hf)) (by decide +kernel)
        refine iw_icmp_gt (off := 13) (tg := 119) (pc' := 109) hf (by decide +kernel) (fun hf => ?_) (fun hf => ?_)
        · refine iw_aload_n (i := 0) (pc' := 120) 0 rfl (by decide +kernel) ?_
          refine iw_iload_n (i := 3) (pc' := 121) 3 rfl (by decide +kernel) ?_
          refine iw_put (pc' := 124) hf ic_fk9 cO_90 lkf_X9_72 (by decide +kernel) (fun m32 hf => ?_)
          refine iw_aload_n (i := 0) (pc' := 125) 0 rfl (by decide +kernel) ?_
          refine iw_iconst (i := 2) (v := (2 : Int32)) (pc' := 126) (by decide +kernel) ?_
          obtain ⟨m33, hc, hf⟩ := ic_bd hf
          refine iw_callV (pc' := 129) (S0 := []) (S1 := []) (c1 := 0) (s1 := 0) (k := 1) (ct_X9_fails l κ sw m32 (2 : Int32) hc) cO_90 ⟨rfl, rfl⟩ mv_X9_fails lkm_X9_85 ⟨rfl, rfl⟩ (ic_sum8 trivial (Nat.le_of_ble_eq_true rfl)) (by unfold ic_rm; decide +kernel) ⟨rfl, rfl, rfl⟩ ⟨Nat.le_of_ble_eq_true rfl, Nat.le_of_ble_eq_true rfl⟩ ?_
          obtain rfl := Option.some.inj hf
          exact iw_sub [4] rfl hjq31
        · refine iw_iload (i := 4) (pc' := 111) 4 rfl (by decide +kernel) ?_
          refine iw_iload_n (i := 1) (pc' := 112) 1 rfl (by decide +kernel) ?_
          refine iw_iload_n (i := 2) (pc' := 113) 2 rfl (by decide +kernel) ?_
          obtain ⟨v34, hc, hf⟩ := ic_bd hf
          refine iw_callS (pc' := 116) (S0 := []) (S1 := [.int v34]) (c1 := 0) (s1 := 0) (k := 3) (ct_X9_in l κ sw q30.2 q30.1 x1 x2 hc) ms_X9_in lkm_X9_63 ⟨rfl, rfl⟩ (ic_sum8 trivial (Nat.le_of_ble_eq_true rfl)) (by unfold ic_rm; decide +kernel) ⟨rfl, rfl, rfl⟩ ⟨Nat.le_of_ble_eq_true rfl, Nat.le_of_ble_eq_true rfl⟩ ?_
          refine iw_if_ne (off := 13) (tg := 129) (pc' := 119) hf (by decide +kernel) (fun hf => ?_) (fun hf => ?_)
          · obtain rfl := Option.some.inj hf
            exact iw_sub [4] rfl hjq31
          · refine iw_aload_n (i := 0) (pc' := 120) 0 rfl (by decide +kernel) ?_
            refine iw_iload_n (i := 3) (pc' := 121) 3 rfl (by decide +kernel) ?_
            refine iw_put (pc' := 124) hf ic_fk9 cO_90 lkf_X9_72 (by decide +kernel) (fun m35 hf => ?_)
            refine iw_aload_n (i := 0) (pc' := 125) 0 rfl (by decide +kernel) ?_
            refine iw_iconst (i := 2) (v := (2 : Int32)) (pc' := 126) (by decide +kernel) ?_
            obtain ⟨m36, hc, hf⟩ := ic_bd hf
            refine iw_callV (pc' := 129) (S0 := []) (S1 := []) (c1 := 0) (s1 := 0) (k := 1) (ct_X9_fails l κ sw m35 (2 : Int32) hc) cO_90 ⟨rfl, rfl⟩ mv_X9_fails lkm_X9_85 ⟨rfl, rfl⟩ (ic_sum8 trivial (Nat.le_of_ble_eq_true rfl)) (by unfold ic_rm; decide +kernel) ⟨rfl, rfl, rfl⟩ ⟨Nat.le_of_ble_eq_true rfl, Nat.le_of_ble_eq_true rfl⟩ ?_
            obtain rfl := Option.some.inj hf
            exact iw_sub [4] rfl hjq31
      exact iw_sub [0, 1, 2, 3, 4] rfl (lpX9_number_42_ok l κ sw x1 x2 x24 hjq30 1000 (0 : Int32) m21 hf)
    · refine iw_aload_n (i := 0) (pc' := 28) 0 rfl (by decide +kernel) ?_
      refine iw_iconst (i := 1) (v := (1 : Int32)) (pc' := 29) (by decide +kernel) ?_
      obtain ⟨m37, hc, hf⟩ := ic_bd hf
      refine iw_callV (pc' := 32) (S0 := []) (S1 := []) (c1 := 0) (s1 := 0) (k := 1) (ct_X9_fails l κ sw m21 (1 : Int32) hc) cO_90 ⟨rfl, rfl⟩ mv_X9_fails lkm_X9_85 ⟨rfl, rfl⟩ (ic_sum8 trivial (Nat.le_of_ble_eq_true rfl)) (by unfold ic_rm; decide +kernel) ⟨rfl, rfl, rfl⟩ ⟨Nat.le_of_ble_eq_true rfl, Nat.le_of_ble_eq_true rfl⟩ ?_
      refine iw_iconst (i := 0) (v := (0 : Int32)) (pc' := 33) (by decide +kernel) ?_
      exact iw_ireturn (ic_q1 (Option.some.inj hf)) rfl (ic_q2 (Option.some.inj hf)) (by decide +kernel)
  · refine iw_iconst (i := 0) (v := (0 : Int32)) (pc' := 12) (by decide +kernel) ?_
    exact iw_ireturn (ic_q1 (Option.some.inj hf)) rfl (ic_q2 (Option.some.inj hf)) (by decide +kernel)
set_option maxRecDepth 100000 in
set_option maxHeartbeats 4000000 in
theorem ct_X9_opens (l : Launch) (κ : ic_K) (sw : Nat) (μ : ic_M) (x1 : Int32) {R : Int32 × ic_M} (hf : fX9_opens μ x1 = some R) : ic_C l κ MX9_opens [ic_rv κ.1 90, .int x1] 106 (ic_rs sw) μ (some (.int R.1)) 106 (ic_rs sw) R.2 := by
  refine ic_C.of (L := [(0, ic_rv κ.1 90), (1, .int x1)]) ⟨ic_cat _ _, rfl, trivial⟩ ⟨by decide +kernel, Nat.le_of_ble_eq_true rfl⟩ rfl ?_
  unfold fX9_opens at hf
  refine iw_iload_n (i := 1) (pc' := 1) 1 rfl (by decide +kernel) ?_
  obtain ⟨q21, hf, hgq21⟩ := ic_bd hf
  have hjq21 : ic_W l κ MX9_opens ic_X0 (ic_Z κ MX9_opens (some (.int R.1)) 106 (ic_rs sw) R.2) 9 [(0, ic_rv κ.1 90), (1, .int x1)] [] 106 (ic_rs sw) q21 0 0 := by
    have hf := hgq21
    refine iw_aload_n (i := 0) (pc' := 10) 0 rfl (by decide +kernel) ?_
    refine iw_dup (pc' := 11) (ic_cat _ _) (by decide +kernel) ?_
    refine iw_geti (pc' := 14) ic_fk9 cO_90 lkf_X9_72 (by decide +kernel) ?_
    refine iw_iload_n (i := 1) (pc' := 15) 1 rfl (by decide +kernel) ?_
    obtain ⟨q23, hf, hgq23⟩ := ic_bd hf
    have hjq23 : ic_W l κ MX9_opens ic_X0 (ic_Z κ MX9_opens (some (.int R.1)) 106 (ic_rs sw) R.2) 23 [(1, .int x1)] [.int q23, .int (q21 90 21), ic_rv κ.1 90] 106 (ic_rs sw) q21 0 0 := by
      have hf := hgq23
      refine iw_iadd (pc' := 24) (by decide +kernel) ?_
      refine iw_put (pc' := 27) hf ic_fk9 cO_90 lkf_X9_72 (by decide +kernel) (fun m24 hf => ?_)
      refine iw_iload_n (i := 1) (pc' := 28) 0 rfl (by decide +kernel) ?_
      obtain ⟨q25, hf, hgq25⟩ := ic_bd hf
      have hjq25 : ic_W l κ MX9_opens ic_X0 (ic_Z κ MX9_opens (some (.int R.1)) 106 (ic_rs sw) R.2) 36 [] [.int q25] 106 (ic_rs sw) m24 0 0 := by
        have hf := hgq25
        obtain ⟨hb, hf⟩ := ic_rz_of hf
        exact iw_zreturn hb (ic_q1 (Option.some.inj hf)) rfl (ic_q2 (Option.some.inj hf)) (by decide +kernel)
      refine iw_if_ne (off := 7) (tg := 35) (pc' := 31) hf (by decide +kernel) (fun hf => ?_) (fun hf => ?_)
      · refine iw_iconst (i := 0) (v := (0 : Int32)) (pc' := 36) (by decide +kernel) ?_
        obtain rfl := Option.some.inj hf
        exact iw_sub [] rfl hjq25
      · refine iw_iconst (i := 1) (v := (1 : Int32)) (pc' := 32) (by decide +kernel) ?_
        refine iw_goto (off := 4) (pc' := 36) (by decide +kernel) ?_
        obtain rfl := Option.some.inj hf
        exact iw_sub [] rfl hjq25
    refine iw_if_eq (off := 7) (tg := 22) (pc' := 18) hf (by decide +kernel) (fun hf => ?_) (fun hf => ?_)
    · refine iw_iconst (i := 1) (v := (1 : Int32)) (pc' := 23) (by decide +kernel) ?_
      obtain rfl := Option.some.inj hf
      exact iw_sub [1] rfl hjq23
    · refine iw_iconst (i := 0) (v := (0 : Int32)) (pc' := 19) (by decide +kernel) ?_
      refine iw_goto (off := 4) (pc' := 23) (by decide +kernel) ?_
      obtain rfl := Option.some.inj hf
      exact iw_sub [1] rfl hjq23
  refine iw_if_eq (off := 8) (tg := 9) (pc' := 4) hf (by decide +kernel) (fun hf => ?_) (fun hf => ?_)
  · obtain rfl := Option.some.inj hf
    exact iw_sub [0, 1] rfl hjq21
  · refine iw_aload_n (i := 0) (pc' := 5) 0 rfl (by decide +kernel) ?_
    refine iw_iconst (i := 3) (v := (3 : Int32)) (pc' := 6) (by decide +kernel) ?_
    obtain ⟨m22, hc, hf⟩ := ic_bd hf
    refine iw_callV (pc' := 9) (S0 := []) (S1 := []) (c1 := 0) (s1 := 0) (k := 1) (ct_X9_fails l κ sw μ (3 : Int32) hc) cO_90 ⟨rfl, rfl⟩ mv_X9_fails lkm_X9_85 ⟨rfl, rfl⟩ (ic_sum8 trivial (Nat.le_of_ble_eq_true rfl)) (by unfold ic_rm; decide +kernel) ⟨rfl, rfl, rfl⟩ ⟨Nat.le_of_ble_eq_true rfl, Nat.le_of_ble_eq_true rfl⟩ ?_
    obtain rfl := Option.some.inj hf
    exact iw_sub [0, 1] rfl hjq21
set_option maxRecDepth 100000 in
set_option maxHeartbeats 4000000 in
theorem ct_X9_readsRiver (l : Launch) (κ : ic_K) (sw : Nat) (μ : ic_M) {R : ic_M} (hf : fX9_readsRiver μ = some R) : ic_C l κ MX9_readsRiver [ic_rv κ.1 90] 106 (ic_rs sw) μ none 106 (ic_rs sw) R := by
  refine ic_C.of (L := [(0, ic_rv κ.1 90)]) ⟨ic_cat _ _, trivial⟩ ⟨by decide +kernel, Nat.le_of_ble_eq_true rfl⟩ rfl ?_
  unfold fX9_readsRiver at hf
  refine iw_aload_n (i := 0) (pc' := 1) 0 rfl (by decide +kernel) ?_
  refine iw_aload_n (i := 0) (pc' := 2) 0 rfl (by decide +kernel) ?_
  refine iw_getr (pc' := 5) (q := 95) ic_fk9 cO_90 rfl lkf_X9_26 (by decide +kernel) ?_
  refine iw_iconst (i := 0) (v := (0 : Int32)) (pc' := 6) (by decide +kernel) ?_
  refine iw_iald (pc' := 7) hf (fun _ => cI_95) (by decide +kernel) (fun v21 hf => ?_)
  obtain ⟨q22, hf, hgq22⟩ := ic_bd hf
  have hjq22 : ic_W l κ MX9_readsRiver ic_X0 (ic_Z κ MX9_readsRiver none 106 (ic_rs sw) R) 15 [(0, ic_rv κ.1 90)] [.int q22, ic_rv κ.1 90] 106 (ic_rs sw) μ 0 0 := by
    have hf := hgq22
    obtain ⟨q23, hc, hf⟩ := ic_bd hf
    refine iw_callV (pc' := 18) (S0 := []) (S1 := [.int q23.1]) (c1 := 0) (s1 := 0) (k := 1) (ct_X9_opens l κ sw μ q22 hc) cO_90 ⟨rfl, rfl⟩ mv_X9_opens lkm_X9_89 ⟨rfl, rfl⟩ (ic_sum8 trivial (Nat.le_of_ble_eq_true rfl)) (by unfold ic_rm; decide +kernel) ⟨rfl, rfl, rfl⟩ ⟨Nat.le_of_ble_eq_true rfl, Nat.le_of_ble_eq_true rfl⟩ ?_
    obtain ⟨q24, hf, hgq24⟩ := ic_bd hf
    have hjq24 : ic_W l κ MX9_readsRiver ic_X0 (ic_Z κ MX9_readsRiver none 106 (ic_rs sw) R) 65 [] [] 106 (ic_rs sw) q24 0 0 := by
      have hf := hgq24
      exact iw_vreturn rfl (Option.some.inj hf) (by decide +kernel)
    refine iw_if_eq (off := 47) (tg := 65) (pc' := 21) hf (by decide +kernel) (fun hf => ?_) (fun hf => ?_)
    · obtain rfl := Option.some.inj hf
      exact iw_sub [] rfl hjq24
    · refine iw_aload_n (i := 0) (pc' := 22) 0 rfl (by decide +kernel) ?_
      refine iw_getr (pc' := 25) (q := 95) ic_fk9 cO_90 rfl lkf_X9_26 (by decide +kernel) ?_
      refine iw_iconst (i := 0) (v := (0 : Int32)) (pc' := 26) (by decide +kernel) ?_
      refine iw_aload_n (i := 0) (pc' := 27) 0 rfl (by decide +kernel) ?_
      refine iw_iconst (i := 2) (v := (2 : Int32)) (pc' := 28) (by decide +kernel) ?_
      refine iw_bipush (i := 6) (v := (6 : Int32)) (pc' := 30) (by decide +kernel) ?_
      obtain ⟨q25, hc, hf⟩ := ic_bd hf
      refine iw_callV (pc' := 33) (S0 := [.int (0 : Int32), ic_rv κ.1 95]) (S1 := [.int q25.1, .int (0 : Int32), ic_rv κ.1 95]) (c1 := 0) (s1 := 0) (k := 2) (ct_X9_number l κ sw q23.2 (2 : Int32) (6 : Int32) hc) cO_90 ⟨rfl, rfl⟩ mv_X9_number lkm_X9_93 ⟨rfl, rfl⟩ (ic_sum8 ⟨rfl, ic_cat _ _, trivial⟩ (Nat.le_of_ble_eq_true rfl)) (by unfold ic_rm; decide +kernel) ⟨rfl, rfl, rfl⟩ ⟨Nat.le_of_ble_eq_true rfl, Nat.le_of_ble_eq_true rfl⟩ ?_
      refine iw_iast (pc' := 34) hf (fun _ => cI_95) (by decide +kernel) (fun m26 hf => ?_)
      refine iw_aload_n (i := 0) (pc' := 35) 0 rfl (by decide +kernel) ?_
      refine iw_getr (pc' := 38) (q := 95) ic_fk9 cO_90 rfl lkf_X9_26 (by decide +kernel) ?_
      refine iw_iconst (i := 1) (v := (1 : Int32)) (pc' := 39) (by decide +kernel) ?_
      refine iw_aload_n (i := 0) (pc' := 40) 0 rfl (by decide +kernel) ?_
      refine iw_iconst (i := 1) (v := (1 : Int32)) (pc' := 41) (by decide +kernel) ?_
      refine iw_iconst (i := 3) (v := (3 : Int32)) (pc' := 42) (by decide +kernel) ?_
      obtain ⟨q27, hc, hf⟩ := ic_bd hf
      refine iw_callV (pc' := 45) (S0 := [.int (1 : Int32), ic_rv κ.1 95]) (S1 := [.int q27.1, .int (1 : Int32), ic_rv κ.1 95]) (c1 := 0) (s1 := 0) (k := 2) (ct_X9_number l κ sw m26 (1 : Int32) (3 : Int32) hc) cO_90 ⟨rfl, rfl⟩ mv_X9_number lkm_X9_93 ⟨rfl, rfl⟩ (ic_sum8 ⟨rfl, ic_cat _ _, trivial⟩ (Nat.le_of_ble_eq_true rfl)) (by unfold ic_rm; decide +kernel) ⟨rfl, rfl, rfl⟩ ⟨Nat.le_of_ble_eq_true rfl, Nat.le_of_ble_eq_true rfl⟩ ?_
      refine iw_iast (pc' := 46) hf (fun _ => cI_95) (by decide +kernel) (fun m28 hf => ?_)
      refine iw_aload_n (i := 0) (pc' := 47) 0 rfl (by decide +kernel) ?_
      refine iw_getr (pc' := 50) (q := 95) ic_fk9 cO_90 rfl lkf_X9_26 (by decide +kernel) ?_
      refine iw_iconst (i := 2) (v := (2 : Int32)) (pc' := 51) (by decide +kernel) ?_
      refine iw_aload_n (i := 0) (pc' := 52) 0 rfl (by decide +kernel) ?_
      refine iw_iconst (i := 1) (v := (1 : Int32)) (pc' := 53) (by decide +kernel) ?_
      refine iw_bipush (i := 30) (v := (30 : Int32)) (pc' := 55) (by decide +kernel) ?_
      obtain ⟨q29, hc, hf⟩ := ic_bd hf
      refine iw_callV (pc' := 58) (S0 := [.int (2 : Int32), ic_rv κ.1 95]) (S1 := [.int q29.1, .int (2 : Int32), ic_rv κ.1 95]) (c1 := 0) (s1 := 0) (k := 2) (ct_X9_number l κ sw m28 (1 : Int32) (30 : Int32) hc) cO_90 ⟨rfl, rfl⟩ mv_X9_number lkm_X9_93 ⟨rfl, rfl⟩ (ic_sum8 ⟨rfl, ic_cat _ _, trivial⟩ (Nat.le_of_ble_eq_true rfl)) (by unfold ic_rm; decide +kernel) ⟨rfl, rfl, rfl⟩ ⟨Nat.le_of_ble_eq_true rfl, Nat.le_of_ble_eq_true rfl⟩ ?_
      refine iw_iast (pc' := 59) hf (fun _ => cI_95) (by decide +kernel) (fun m30 hf => ?_)
      refine iw_aload_n (i := 0) (pc' := 60) 0 rfl (by decide +kernel) ?_
      refine iw_bipush (i := 59) (v := (59 : Int32)) (pc' := 62) (by decide +kernel) ?_
      obtain ⟨m31, hc, hf⟩ := ic_bd hf
      refine iw_callV (pc' := 65) (S0 := []) (S1 := []) (c1 := 0) (s1 := 0) (k := 1) (ct_X9_word l κ sw m30 (59 : Int32) hc) cO_90 ⟨rfl, rfl⟩ mv_X9_word lkm_X9_97 ⟨rfl, rfl⟩ (ic_sum8 trivial (Nat.le_of_ble_eq_true rfl)) (by unfold ic_rm; decide +kernel) ⟨rfl, rfl, rfl⟩ ⟨Nat.le_of_ble_eq_true rfl, Nat.le_of_ble_eq_true rfl⟩ ?_
      obtain rfl := Option.some.inj hf
      exact iw_sub [] rfl hjq24
  refine iw_if_le (off := 7) (tg := 14) (pc' := 10) hf (by decide +kernel) (fun hf => ?_) (fun hf => ?_)
  · refine iw_iconst (i := 0) (v := (0 : Int32)) (pc' := 15) (by decide +kernel) ?_
    obtain rfl := Option.some.inj hf
    exact iw_sub [0] rfl hjq22
  · refine iw_iconst (i := 1) (v := (1 : Int32)) (pc' := 11) (by decide +kernel) ?_
    refine iw_goto (off := 4) (pc' := 15) (by decide +kernel) ?_
    obtain rfl := Option.some.inj hf
    exact iw_sub [0] rfl hjq22
set_option maxRecDepth 100000 in
set_option maxHeartbeats 4000000 in
theorem lpX9_readsList_45_ok (l : Launch) (κ : ic_K) (sw : Nat) (x1_ : Int32) (x2_ : Int32) (x3_ : Int32) (x4_ : Int32) {Z : State → List Frame → Array Value → State → Prop} {R : ic_M} (hk : ic_W l κ MX9_readsList ic_X0 Z 126 [(0, ic_rv κ.1 90)] [] 106 (ic_rs sw) R 0 0) : ∀ (fu : Nat) (μ : ic_M), lpX9_readsList_45 x1_ x2_ x3_ x4_ fu μ = some R → ic_W l κ MX9_readsList ic_X0 Z 45 [(0, ic_rv κ.1 90), (1, .int x1_), (2, .int x2_), (3, .int x3_), (4, .int x4_)] [] 106 (ic_rs sw) μ 0 0 := by
  intro fu
  induction fu with
  | zero =>
    intro μ hf
    exact absurd hf (by simp [lpX9_readsList_45])
  | succ fu ih =>
    intro μ hf
    rw [lpX9_readsList_45] at hf
    refine iw_aload_n (i := 0) (pc' := 46) 0 rfl (by decide +kernel) ?_
    refine iw_geti (pc' := 49) ic_fk9 cO_90 lkf_X9_75 (by decide +kernel) ?_
    refine iw_if_ne (off := 77) (tg := 126) (pc' := 52) hf (by decide +kernel) (fun hf => ?_) (fun hf => ?_)
    · obtain rfl := Option.some.inj hf
      exact iw_sub [0] rfl hk
    · refine iw_aload_n (i := 0) (pc' := 53) 0 rfl (by decide +kernel) ?_
      obtain ⟨v29, hc, hf⟩ := ic_bd hf
      refine iw_callV (pc' := 56) (S0 := []) (S1 := [.int v29]) (c1 := 0) (s1 := 0) (k := 0) (ct_X9_look l κ sw μ hc) cO_90 ⟨rfl, rfl⟩ mv_X9_look lkm_X9_78 ⟨rfl, rfl⟩ (ic_sum8 trivial (Nat.le_of_ble_eq_true rfl)) (by unfold ic_rm; decide +kernel) ⟨rfl, rfl, rfl⟩ ⟨Nat.le_of_ble_eq_true rfl, Nat.le_of_ble_eq_true rfl⟩ ?_
      refine iw_bipush (i := 44) (v := (44 : Int32)) (pc' := 58) (by decide +kernel) ?_
      refine iw_icmp_ne (off := 68) (tg := 126) (pc' := 61) hf (by decide +kernel) (fun hf => ?_) (fun hf => ?_)
      · obtain rfl := Option.some.inj hf
        exact iw_sub [0] rfl hk
      · refine iw_aload_n (i := 0) (pc' := 62) 0 rfl (by decide +kernel) ?_
        refine iw_getr (pc' := 65) (q := 95) ic_fk9 cO_90 rfl lkf_X9_26 (by decide +kernel) ?_
        refine iw_iload_n (i := 1) (pc' := 66) 1 rfl (by decide +kernel) ?_
        refine iw_iald (pc' := 67) hf (fun _ => cI_95) (by decide +kernel) (fun v30 hf => ?_)
        refine iw_iload_n (i := 3) (pc' := 68) 3 rfl (by decide +kernel) ?_
        obtain ⟨q31, hf, hgq31⟩ := ic_bd hf
        have hjq31 : ic_W l κ MX9_readsList ic_X0 Z 119 [(0, ic_rv κ.1 90), (1, .int x1_), (2, .int x2_), (3, .int x3_), (4, .int x4_)] [] 106 (ic_rs sw) q31 0 0 := by
          have hf := hgq31
          refine iw_aload_n (i := 0) (pc' := 120) 0 rfl (by decide +kernel) ?_
          obtain ⟨m39, hc, hf⟩ := ic_bd hf
          refine iw_callV (pc' := 123) (S0 := []) (S1 := []) (c1 := 0) (s1 := 0) (k := 0) (ct_X9_skips l κ sw q31 hc) cO_90 ⟨rfl, rfl⟩ mv_X9_skips lkm_X9_82 ⟨rfl, rfl⟩ (ic_sum8 trivial (Nat.le_of_ble_eq_true rfl)) (by unfold ic_rm; decide +kernel) ⟨rfl, rfl, rfl⟩ ⟨Nat.le_of_ble_eq_true rfl, Nat.le_of_ble_eq_true rfl⟩ ?_
          refine iw_goto (off := (-78)) (pc' := 45) (by decide +kernel) ?_
          exact iw_sub [0, 1, 2, 3, 4] rfl (ih _ hf)
        refine iw_icmp_ne (off := 11) (tg := 79) (pc' := 71) hf (by decide +kernel) (fun hf => ?_) (fun hf => ?_)
        · refine iw_aload_n (i := 0) (pc' := 80) 0 rfl (by decide +kernel) ?_
          refine iw_dup (pc' := 81) (ic_cat _ _) (by decide +kernel) ?_
          refine iw_geti (pc' := 84) ic_fk9 cO_90 lkf_X9_72 (by decide +kernel) ?_
          refine iw_iconst (i := 1) (v := (1 : Int32)) (pc' := 85) (by decide +kernel) ?_
          refine iw_iadd (pc' := 86) (by decide +kernel) ?_
          refine iw_put (pc' := 89) hf ic_fk9 cO_90 lkf_X9_72 (by decide +kernel) (fun m32 hf => ?_)
          refine iw_aload_n (i := 0) (pc' := 90) 0 rfl (by decide +kernel) ?_
          refine iw_getr (pc' := 93) (q := 96) ic_fk9 cO_90 rfl lkf_X9_29 (by decide +kernel) ?_
          refine iw_iload_n (i := 2) (pc' := 94) 2 rfl (by decide +kernel) ?_
          refine iw_aload_n (i := 0) (pc' := 95) 0 rfl (by decide +kernel) ?_
          refine iw_getr (pc' := 98) (q := 95) ic_fk9 cO_90 rfl lkf_X9_26 (by decide +kernel) ?_
          refine iw_iload_n (i := 1) (pc' := 99) 1 rfl (by decide +kernel) ?_
          refine iw_iald (pc' := 100) hf (fun _ => cI_95) (by decide +kernel) (fun v33 hf => ?_)
          refine iw_iadd (pc' := 101) (by decide +kernel) ?_
          refine iw_aload_n (i := 0) (pc' := 102) 0 rfl (by decide +kernel) ?_
          refine iw_iconst (i := 0) (v := (0 : Int32)) (pc' := 103) (by decide +kernel) ?_
          refine iw_iload (i := 4) (pc' := 105) 4 rfl (by decide +kernel) ?_
          obtain ⟨q34, hc, hf⟩ := ic_bd hf
          refine iw_callV (pc' := 108) (S0 := [.int (x2_ + v33), ic_rv κ.1 96]) (S1 := [.int q34.1, .int (x2_ + v33), ic_rv κ.1 96]) (c1 := 0) (s1 := 0) (k := 2) (ct_X9_number l κ sw m32 (0 : Int32) x4_ hc) cO_90 ⟨rfl, rfl⟩ mv_X9_number lkm_X9_93 ⟨rfl, rfl⟩ (ic_sum8 ⟨rfl, ic_cat _ _, trivial⟩ (Nat.le_of_ble_eq_true rfl)) (by unfold ic_rm; decide +kernel) ⟨rfl, rfl, rfl⟩ ⟨Nat.le_of_ble_eq_true rfl, Nat.le_of_ble_eq_true rfl⟩ ?_
          refine iw_iast (pc' := 109) hf (fun _ => cI_96) (by decide +kernel) (fun m35 hf => ?_)
          refine iw_aload_n (i := 0) (pc' := 110) 0 rfl (by decide +kernel) ?_
          refine iw_getr (pc' := 113) (q := 95) ic_fk9 cO_90 rfl lkf_X9_26 (by decide +kernel) ?_
          refine iw_iload_n (i := 1) (pc' := 114) 1 rfl (by decide +kernel) ?_
          refine iw_dup2 (pc' := 115) rfl (ic_cat _ _) (by decide +kernel) ?_
          refine iw_iald (pc' := 116) hf (fun _ => cI_95) (by decide +kernel) (fun v36 hf => ?_)
          refine iw_iconst (i := 1) (v := (1 : Int32)) (pc' := 117) (by decide +kernel) ?_
          refine iw_iadd (pc' := 118) (by decide +kernel) ?_
          refine iw_iast (pc' := 119) hf (fun _ => cI_95) (by decide +kernel) (fun m37 hf => ?_)
          obtain rfl := Option.some.inj hf
          exact iw_sub [0, 1, 2, 3, 4] rfl hjq31
        · refine iw_aload_n (i := 0) (pc' := 72) 0 rfl (by decide +kernel) ?_
          refine iw_iconst (i := 1) (v := (1 : Int32)) (pc' := 73) (by decide +kernel) ?_
          obtain ⟨m38, hc, hf⟩ := ic_bd hf
          refine iw_callV (pc' := 76) (S0 := []) (S1 := []) (c1 := 0) (s1 := 0) (k := 1) (ct_X9_fails l κ sw μ (1 : Int32) hc) cO_90 ⟨rfl, rfl⟩ mv_X9_fails lkm_X9_85 ⟨rfl, rfl⟩ (ic_sum8 trivial (Nat.le_of_ble_eq_true rfl)) (by unfold ic_rm; decide +kernel) ⟨rfl, rfl, rfl⟩ ⟨Nat.le_of_ble_eq_true rfl, Nat.le_of_ble_eq_true rfl⟩ ?_
          refine iw_goto (off := 43) (pc' := 119) (by decide +kernel) ?_
          obtain rfl := Option.some.inj hf
          exact iw_sub [0, 1, 2, 3, 4] rfl hjq31
set_option maxRecDepth 100000 in
set_option maxHeartbeats 4000000 in
theorem ct_X9_readsList (l : Launch) (κ : ic_K) (sw : Nat) (μ : ic_M) (x1 : Int32) (x2 : Int32) (x3 : Int32) (x4 : Int32) {R : ic_M} (hf : fX9_readsList μ x1 x2 x3 x4 = some R) : ic_C l κ MX9_readsList [ic_rv κ.1 90, .int x1, .int x2, .int x3, .int x4] 106 (ic_rs sw) μ none 106 (ic_rs sw) R := by
  refine ic_C.of (L := [(0, ic_rv κ.1 90), (1, .int x1), (2, .int x2), (3, .int x3), (4, .int x4)]) ⟨ic_cat _ _, rfl, rfl, rfl, rfl, trivial⟩ ⟨by decide +kernel, Nat.le_of_ble_eq_true rfl⟩ rfl ?_
  unfold fX9_readsList at hf
  refine iw_aload_n (i := 0) (pc' := 1) 0 rfl (by decide +kernel) ?_
  refine iw_aload_n (i := 0) (pc' := 2) 0 rfl (by decide +kernel) ?_
  refine iw_getr (pc' := 5) (q := 95) ic_fk9 cO_90 rfl lkf_X9_26 (by decide +kernel) ?_
  refine iw_iload_n (i := 1) (pc' := 6) 1 rfl (by decide +kernel) ?_
  refine iw_iald (pc' := 7) hf (fun _ => cI_95) (by decide +kernel) (fun v21 hf => ?_)
  obtain ⟨q22, hf, hgq22⟩ := ic_bd hf
  have hjq22 : ic_W l κ MX9_readsList ic_X0 (ic_Z κ MX9_readsList none 106 (ic_rs sw) R) 15 [(0, ic_rv κ.1 90), (1, .int x1), (2, .int x2), (3, .int x3), (4, .int x4)] [.int q22, ic_rv κ.1 90] 106 (ic_rs sw) μ 0 0 := by
    have hf := hgq22
    obtain ⟨q23, hc, hf⟩ := ic_bd hf
    refine iw_callV (pc' := 18) (S0 := []) (S1 := [.int q23.1]) (c1 := 0) (s1 := 0) (k := 1) (ct_X9_opens l κ sw μ q22 hc) cO_90 ⟨rfl, rfl⟩ mv_X9_opens lkm_X9_89 ⟨rfl, rfl⟩ (ic_sum8 trivial (Nat.le_of_ble_eq_true rfl)) (by unfold ic_rm; decide +kernel) ⟨rfl, rfl, rfl⟩ ⟨Nat.le_of_ble_eq_true rfl, Nat.le_of_ble_eq_true rfl⟩ ?_
    obtain ⟨q24, hf, hgq24⟩ := ic_bd hf
    have hjq24 : ic_W l κ MX9_readsList ic_X0 (ic_Z κ MX9_readsList none 106 (ic_rs sw) R) 132 [] [] 106 (ic_rs sw) q24 0 0 := by
      have hf := hgq24
      exact iw_vreturn rfl (Option.some.inj hf) (by decide +kernel)
    refine iw_if_eq (off := 114) (tg := 132) (pc' := 21) hf (by decide +kernel) (fun hf => ?_) (fun hf => ?_)
    · obtain rfl := Option.some.inj hf
      exact iw_sub [] rfl hjq24
    · refine iw_aload_n (i := 0) (pc' := 22) 0 rfl (by decide +kernel) ?_
      refine iw_getr (pc' := 25) (q := 96) ic_fk9 cO_90 rfl lkf_X9_29 (by decide +kernel) ?_
      refine iw_iload_n (i := 2) (pc' := 26) 2 rfl (by decide +kernel) ?_
      refine iw_aload_n (i := 0) (pc' := 27) 0 rfl (by decide +kernel) ?_
      refine iw_iconst (i := 0) (v := (0 : Int32)) (pc' := 28) (by decide +kernel) ?_
      refine iw_iload (i := 4) (pc' := 30) 4 rfl (by decide +kernel) ?_
      obtain ⟨q25, hc, hf⟩ := ic_bd hf
      refine iw_callV (pc' := 33) (S0 := [.int x2, ic_rv κ.1 96]) (S1 := [.int q25.1, .int x2, ic_rv κ.1 96]) (c1 := 0) (s1 := 0) (k := 2) (ct_X9_number l κ sw q23.2 (0 : Int32) x4 hc) cO_90 ⟨rfl, rfl⟩ mv_X9_number lkm_X9_93 ⟨rfl, rfl⟩ (ic_sum8 ⟨rfl, ic_cat _ _, trivial⟩ (Nat.le_of_ble_eq_true rfl)) (by unfold ic_rm; decide +kernel) ⟨rfl, rfl, rfl⟩ ⟨Nat.le_of_ble_eq_true rfl, Nat.le_of_ble_eq_true rfl⟩ ?_
      refine iw_iast (pc' := 34) hf (fun _ => cI_96) (by decide +kernel) (fun m26 hf => ?_)
      refine iw_aload_n (i := 0) (pc' := 35) 0 rfl (by decide +kernel) ?_
      refine iw_getr (pc' := 38) (q := 95) ic_fk9 cO_90 rfl lkf_X9_26 (by decide +kernel) ?_
      refine iw_iload_n (i := 1) (pc' := 39) 1 rfl (by decide +kernel) ?_
      refine iw_iconst (i := 1) (v := (1 : Int32)) (pc' := 40) (by decide +kernel) ?_
      refine iw_iast (pc' := 41) hf (fun _ => cI_95) (by decide +kernel) (fun m27 hf => ?_)
      refine iw_aload_n (i := 0) (pc' := 42) 0 rfl (by decide +kernel) ?_
      obtain ⟨m28, hc, hf⟩ := ic_bd hf
      refine iw_callV (pc' := 45) (S0 := []) (S1 := []) (c1 := 0) (s1 := 0) (k := 0) (ct_X9_skips l κ sw m27 hc) cO_90 ⟨rfl, rfl⟩ mv_X9_skips lkm_X9_82 ⟨rfl, rfl⟩ (ic_sum8 trivial (Nat.le_of_ble_eq_true rfl)) (by unfold ic_rm; decide +kernel) ⟨rfl, rfl, rfl⟩ ⟨Nat.le_of_ble_eq_true rfl, Nat.le_of_ble_eq_true rfl⟩ ?_
      obtain ⟨q40, hf, hgq40⟩ := ic_bd hf
      have hjq40 : ic_W l κ MX9_readsList ic_X0 (ic_Z κ MX9_readsList none 106 (ic_rs sw) R) 126 [(0, ic_rv κ.1 90)] [] 106 (ic_rs sw) q40 0 0 := by
        have hf := hgq40
        refine iw_aload_n (i := 0) (pc' := 127) 0 rfl (by decide +kernel) ?_
        refine iw_bipush (i := 59) (v := (59 : Int32)) (pc' := 129) (by decide +kernel) ?_
        obtain ⟨m41, hc, hf⟩ := ic_bd hf
        refine iw_callV (pc' := 132) (S0 := []) (S1 := []) (c1 := 0) (s1 := 0) (k := 1) (ct_X9_word l κ sw q40 (59 : Int32) hc) cO_90 ⟨rfl, rfl⟩ mv_X9_word lkm_X9_97 ⟨rfl, rfl⟩ (ic_sum8 trivial (Nat.le_of_ble_eq_true rfl)) (by unfold ic_rm; decide +kernel) ⟨rfl, rfl, rfl⟩ ⟨Nat.le_of_ble_eq_true rfl, Nat.le_of_ble_eq_true rfl⟩ ?_
        obtain rfl := Option.some.inj hf
        exact iw_sub [] rfl hjq24
      exact iw_sub [0, 1, 2, 3, 4] rfl (lpX9_readsList_45_ok l κ sw x1 x2 x3 x4 hjq40 1000 m28 hf)
  refine iw_if_le (off := 7) (tg := 14) (pc' := 10) hf (by decide +kernel) (fun hf => ?_) (fun hf => ?_)
  · refine iw_iconst (i := 0) (v := (0 : Int32)) (pc' := 15) (by decide +kernel) ?_
    obtain rfl := Option.some.inj hf
    exact iw_sub [0, 1, 2, 3, 4] rfl hjq22
  · refine iw_iconst (i := 1) (v := (1 : Int32)) (pc' := 11) (by decide +kernel) ?_
    refine iw_goto (off := 4) (pc' := 15) (by decide +kernel) ?_
    obtain rfl := Option.some.inj hf
    exact iw_sub [0, 1, 2, 3, 4] rfl hjq22
set_option maxRecDepth 100000 in
set_option maxHeartbeats 4000000 in
theorem ct_X9_readsPerson (l : Launch) (κ : ic_K) (sw : Nat) (μ : ic_M) {R : ic_M} (hf : fX9_readsPerson μ = some R) : ic_C l κ MX9_readsPerson [ic_rv κ.1 90] 106 (ic_rs sw) μ none 106 (ic_rs sw) R := by
  refine ic_C.of (L := [(0, ic_rv κ.1 90)]) ⟨ic_cat _ _, trivial⟩ ⟨by decide +kernel, Nat.le_of_ble_eq_true rfl⟩ rfl ?_
  unfold fX9_readsPerson at hf
  refine iw_aload_n (i := 0) (pc' := 1) 0 rfl (by decide +kernel) ?_
  refine iw_aload_n (i := 0) (pc' := 2) 0 rfl (by decide +kernel) ?_
  refine iw_getr (pc' := 5) (q := 95) ic_fk9 cO_90 rfl lkf_X9_26 (by decide +kernel) ?_
  refine iw_iconst (i := 3) (v := (3 : Int32)) (pc' := 6) (by decide +kernel) ?_
  refine iw_iald (pc' := 7) hf (fun _ => cI_95) (by decide +kernel) (fun v21 hf => ?_)
  refine iw_bipush (i := 6) (v := (6 : Int32)) (pc' := 9) (by decide +kernel) ?_
  obtain ⟨q22, hf, hgq22⟩ := ic_bd hf
  have hjq22 : ic_W l κ MX9_readsPerson ic_X0 (ic_Z κ MX9_readsPerson none 106 (ic_rs sw) R) 17 [(0, ic_rv κ.1 90)] [.int q22, ic_rv κ.1 90] 106 (ic_rs sw) μ 0 0 := by
    have hf := hgq22
    obtain ⟨q23, hc, hf⟩ := ic_bd hf
    refine iw_callV (pc' := 20) (S0 := []) (S1 := [.int q23.1]) (c1 := 0) (s1 := 0) (k := 1) (ct_X9_opens l κ sw μ q22 hc) cO_90 ⟨rfl, rfl⟩ mv_X9_opens lkm_X9_89 ⟨rfl, rfl⟩ (ic_sum8 trivial (Nat.le_of_ble_eq_true rfl)) (by unfold ic_rm; decide +kernel) ⟨rfl, rfl, rfl⟩ ⟨Nat.le_of_ble_eq_true rfl, Nat.le_of_ble_eq_true rfl⟩ ?_
    obtain ⟨q24, hf, hgq24⟩ := ic_bd hf
    have hjq24 : ic_W l κ MX9_readsPerson ic_X0 (ic_Z κ MX9_readsPerson none 106 (ic_rs sw) R) 81 [] [] 106 (ic_rs sw) q24 0 0 := by
      have hf := hgq24
      exact iw_vreturn rfl (Option.some.inj hf) (by decide +kernel)
    refine iw_if_eq (off := 61) (tg := 81) (pc' := 23) hf (by decide +kernel) (fun hf => ?_) (fun hf => ?_)
    · obtain rfl := Option.some.inj hf
      exact iw_sub [] rfl hjq24
    · refine iw_aload_n (i := 0) (pc' := 24) 0 rfl (by decide +kernel) ?_
      refine iw_getr (pc' := 27) (q := 97) ic_fk9 cO_90 rfl lkf_X9_32 (by decide +kernel) ?_
      refine iw_iconst (i := 2) (v := (2 : Int32)) (pc' := 28) (by decide +kernel) ?_
      refine iw_aload_n (i := 0) (pc' := 29) 0 rfl (by decide +kernel) ?_
      refine iw_getr (pc' := 32) (q := 95) ic_fk9 cO_90 rfl lkf_X9_26 (by decide +kernel) ?_
      refine iw_iconst (i := 3) (v := (3 : Int32)) (pc' := 33) (by decide +kernel) ?_
      refine iw_iald (pc' := 34) hf (fun _ => cI_95) (by decide +kernel) (fun v25 hf => ?_)
      refine iw_imul (pc' := 35) (by decide +kernel) ?_
      refine iw_aload_n (i := 0) (pc' := 36) 0 rfl (by decide +kernel) ?_
      refine iw_iconst (i := 0) (v := (0 : Int32)) (pc' := 37) (by decide +kernel) ?_
      refine iw_iconst (i := 1) (v := (1 : Int32)) (pc' := 38) (by decide +kernel) ?_
      obtain ⟨q26, hc, hf⟩ := ic_bd hf
      refine iw_callV (pc' := 41) (S0 := [.int ((2 : Int32) * v25), ic_rv κ.1 97]) (S1 := [.int q26.1, .int ((2 : Int32) * v25), ic_rv κ.1 97]) (c1 := 0) (s1 := 0) (k := 2) (ct_X9_number l κ sw q23.2 (0 : Int32) (1 : Int32) hc) cO_90 ⟨rfl, rfl⟩ mv_X9_number lkm_X9_93 ⟨rfl, rfl⟩ (ic_sum8 ⟨rfl, ic_cat _ _, trivial⟩ (Nat.le_of_ble_eq_true rfl)) (by unfold ic_rm; decide +kernel) ⟨rfl, rfl, rfl⟩ ⟨Nat.le_of_ble_eq_true rfl, Nat.le_of_ble_eq_true rfl⟩ ?_
      refine iw_iast (pc' := 42) hf (fun _ => cI_97) (by decide +kernel) (fun m27 hf => ?_)
      refine iw_aload_n (i := 0) (pc' := 43) 0 rfl (by decide +kernel) ?_
      refine iw_getr (pc' := 46) (q := 97) ic_fk9 cO_90 rfl lkf_X9_32 (by decide +kernel) ?_
      refine iw_iconst (i := 2) (v := (2 : Int32)) (pc' := 47) (by decide +kernel) ?_
      refine iw_aload_n (i := 0) (pc' := 48) 0 rfl (by decide +kernel) ?_
      refine iw_getr (pc' := 51) (q := 95) ic_fk9 cO_90 rfl lkf_X9_26 (by decide +kernel) ?_
      refine iw_iconst (i := 3) (v := (3 : Int32)) (pc' := 52) (by decide +kernel) ?_
      refine iw_iald (pc' := 53) hf (fun _ => cI_95) (by decide +kernel) (fun v28 hf => ?_)
      refine iw_imul (pc' := 54) (by decide +kernel) ?_
      refine iw_iconst (i := 1) (v := (1 : Int32)) (pc' := 55) (by decide +kernel) ?_
      refine iw_iadd (pc' := 56) (by decide +kernel) ?_
      refine iw_aload_n (i := 0) (pc' := 57) 0 rfl (by decide +kernel) ?_
      refine iw_iconst (i := 1) (v := (1 : Int32)) (pc' := 58) (by decide +kernel) ?_
      refine iw_sipush (i := 200) (v := (200 : Int32)) (pc' := 61) (by decide +kernel) ?_
      obtain ⟨q29, hc, hf⟩ := ic_bd hf
      refine iw_callV (pc' := 64) (S0 := [.int (((2 : Int32) * v28) + (1 : Int32)), ic_rv κ.1 97]) (S1 := [.int q29.1, .int (((2 : Int32) * v28) + (1 : Int32)), ic_rv κ.1 97]) (c1 := 0) (s1 := 0) (k := 2) (ct_X9_number l κ sw m27 (1 : Int32) (200 : Int32) hc) cO_90 ⟨rfl, rfl⟩ mv_X9_number lkm_X9_93 ⟨rfl, rfl⟩ (ic_sum8 ⟨rfl, ic_cat _ _, trivial⟩ (Nat.le_of_ble_eq_true rfl)) (by unfold ic_rm; decide +kernel) ⟨rfl, rfl, rfl⟩ ⟨Nat.le_of_ble_eq_true rfl, Nat.le_of_ble_eq_true rfl⟩ ?_
      refine iw_iast (pc' := 65) hf (fun _ => cI_97) (by decide +kernel) (fun m30 hf => ?_)
      refine iw_aload_n (i := 0) (pc' := 66) 0 rfl (by decide +kernel) ?_
      refine iw_bipush (i := 59) (v := (59 : Int32)) (pc' := 68) (by decide +kernel) ?_
      obtain ⟨m31, hc, hf⟩ := ic_bd hf
      refine iw_callV (pc' := 71) (S0 := []) (S1 := []) (c1 := 0) (s1 := 0) (k := 1) (ct_X9_word l κ sw m30 (59 : Int32) hc) cO_90 ⟨rfl, rfl⟩ mv_X9_word lkm_X9_97 ⟨rfl, rfl⟩ (ic_sum8 trivial (Nat.le_of_ble_eq_true rfl)) (by unfold ic_rm; decide +kernel) ⟨rfl, rfl, rfl⟩ ⟨Nat.le_of_ble_eq_true rfl, Nat.le_of_ble_eq_true rfl⟩ ?_
      refine iw_aload_n (i := 0) (pc' := 72) 0 rfl (by decide +kernel) ?_
      refine iw_getr (pc' := 75) (q := 95) ic_fk9 cO_90 rfl lkf_X9_26 (by decide +kernel) ?_
      refine iw_iconst (i := 3) (v := (3 : Int32)) (pc' := 76) (by decide +kernel) ?_
      refine iw_dup2 (pc' := 77) rfl (ic_cat _ _) (by decide +kernel) ?_
      refine iw_iald (pc' := 78) hf (fun _ => cI_95) (by decide +kernel) (fun v32 hf => ?_)
      refine iw_iconst (i := 1) (v := (1 : Int32)) (pc' := 79) (by decide +kernel) ?_
      refine iw_iadd (pc' := 80) (by decide +kernel) ?_
      refine iw_iast (pc' := 81) hf (fun _ => cI_95) (by decide +kernel) (fun m33 hf => ?_)
      obtain rfl := Option.some.inj hf
      exact iw_sub [] rfl hjq24
  refine iw_icmp_ne (off := 7) (tg := 16) (pc' := 12) hf (by decide +kernel) (fun hf => ?_) (fun hf => ?_)
  · refine iw_iconst (i := 0) (v := (0 : Int32)) (pc' := 17) (by decide +kernel) ?_
    obtain rfl := Option.some.inj hf
    exact iw_sub [0] rfl hjq22
  · refine iw_iconst (i := 1) (v := (1 : Int32)) (pc' := 13) (by decide +kernel) ?_
    refine iw_goto (off := 4) (pc' := 17) (by decide +kernel) ?_
    obtain rfl := Option.some.inj hf
    exact iw_sub [0] rfl hjq22
set_option maxRecDepth 100000 in
set_option maxHeartbeats 4000000 in
theorem lpX9_reads_0_ok (l : Launch) (κ : ic_K) (sw : Nat)  {Z : State → List Frame → Array Value → State → Prop} {R : ic_M} (hk : ic_W l κ MX9_reads ic_X0 Z 145 [] [] 106 (ic_rs sw) R 0 0) : ∀ (fu : Nat) (μ : ic_M), lpX9_reads_0  fu μ = some R → ic_W l κ MX9_reads ic_X0 Z 0 [(0, ic_rv κ.1 90)] [] 106 (ic_rs sw) μ 0 0 := by
  intro fu
  induction fu with
  | zero =>
    intro μ hf
    exact absurd hf (by simp [lpX9_reads_0])
  | succ fu ih =>
    intro μ hf
    rw [lpX9_reads_0] at hf
    refine iw_aload_n (i := 0) (pc' := 1) 0 rfl (by decide +kernel) ?_
    refine iw_geti (pc' := 4) ic_fk9 cO_90 lkf_X9_75 (by decide +kernel) ?_
    refine iw_if_ne (off := 141) (tg := 145) (pc' := 7) hf (by decide +kernel) (fun hf => ?_) (fun hf => ?_)
    · obtain rfl := Option.some.inj hf
      exact iw_sub [] rfl hk
    · refine iw_aload_n (i := 0) (pc' := 8) 0 rfl (by decide +kernel) ?_
      obtain ⟨v21, hc, hf⟩ := ic_bd hf
      refine iw_callV (pc' := 11) (S0 := []) (S1 := [.int v21]) (c1 := 0) (s1 := 0) (k := 0) (ct_X9_look l κ sw μ hc) cO_90 ⟨rfl, rfl⟩ mv_X9_look lkm_X9_78 ⟨rfl, rfl⟩ (ic_sum8 trivial (Nat.le_of_ble_eq_true rfl)) (by unfold ic_rm; decide +kernel) ⟨rfl, rfl, rfl⟩ ⟨Nat.le_of_ble_eq_true rfl, Nat.le_of_ble_eq_true rfl⟩ ?_
      refine iw_iconst (i := (-1)) (v := (-1 : Int32)) (pc' := 12) (by decide +kernel) ?_
      refine iw_icmp_eq (off := 133) (tg := 145) (pc' := 15) hf (by decide +kernel) (fun hf => ?_) (fun hf => ?_)
      · obtain rfl := Option.some.inj hf
        exact iw_sub [] rfl hk
      · refine iw_aload_n (i := 0) (pc' := 16) 0 rfl (by decide +kernel) ?_
        obtain ⟨v22, hc, hf⟩ := ic_bd hf
        refine iw_callV (pc' := 19) (S0 := []) (S1 := [.int v22]) (c1 := 0) (s1 := 0) (k := 0) (ct_X9_look l κ sw μ hc) cO_90 ⟨rfl, rfl⟩ mv_X9_look lkm_X9_78 ⟨rfl, rfl⟩ (ic_sum8 trivial (Nat.le_of_ble_eq_true rfl)) (by unfold ic_rm; decide +kernel) ⟨rfl, rfl, rfl⟩ ⟨Nat.le_of_ble_eq_true rfl, Nat.le_of_ble_eq_true rfl⟩ ?_
        refine iw_bipush (i := 114) (v := (114 : Int32)) (pc' := 21) (by decide +kernel) ?_
        obtain ⟨q23, hf, hgq23⟩ := ic_bd hf
        have hjq23 : ic_W l κ MX9_reads ic_X0 Z 138 [(0, ic_rv κ.1 90)] [] 106 (ic_rs sw) q23 0 0 := by
          have hf := hgq23
          refine iw_aload_n (i := 0) (pc' := 139) 0 rfl (by decide +kernel) ?_
          obtain ⟨m36, hc, hf⟩ := ic_bd hf
          refine iw_callV (pc' := 142) (S0 := []) (S1 := []) (c1 := 0) (s1 := 0) (k := 0) (ct_X9_skips l κ sw q23 hc) cO_90 ⟨rfl, rfl⟩ mv_X9_skips lkm_X9_82 ⟨rfl, rfl⟩ (ic_sum8 trivial (Nat.le_of_ble_eq_true rfl)) (by unfold ic_rm; decide +kernel) ⟨rfl, rfl, rfl⟩ ⟨Nat.le_of_ble_eq_true rfl, Nat.le_of_ble_eq_true rfl⟩ ?_
          refine iw_goto (off := (-142)) (pc' := 0) (by decide +kernel) ?_
          exact iw_sub [0] rfl (ih _ hf)
        refine iw_icmp_ne (off := 10) (tg := 31) (pc' := 24) hf (by decide +kernel) (fun hf => ?_) (fun hf => ?_)
        · refine iw_aload_n (i := 0) (pc' := 32) 0 rfl (by decide +kernel) ?_
          refine iw_getr (pc' := 35) (q := 95) ic_fk9 cO_90 rfl lkf_X9_26 (by decide +kernel) ?_
          refine iw_iconst (i := 0) (v := (0 : Int32)) (pc' := 36) (by decide +kernel) ?_
          refine iw_iald (pc' := 37) hf (fun _ => cI_95) (by decide +kernel) (fun v24 hf => ?_)
          refine iw_if_ne (off := 11) (tg := 48) (pc' := 40) hf (by decide +kernel) (fun hf => ?_) (fun hf => ?_)
          · refine iw_aload_n (i := 0) (pc' := 49) 0 rfl (by decide +kernel) ?_
            obtain ⟨v25, hc, hf⟩ := ic_bd hf
            refine iw_callV (pc' := 52) (S0 := []) (S1 := [.int v25]) (c1 := 0) (s1 := 0) (k := 0) (ct_X9_look l κ sw μ hc) cO_90 ⟨rfl, rfl⟩ mv_X9_look lkm_X9_78 ⟨rfl, rfl⟩ (ic_sum8 trivial (Nat.le_of_ble_eq_true rfl)) (by unfold ic_rm; decide +kernel) ⟨rfl, rfl, rfl⟩ ⟨Nat.le_of_ble_eq_true rfl, Nat.le_of_ble_eq_true rfl⟩ ?_
            refine iw_bipush (i := 116) (v := (116 : Int32)) (pc' := 54) (by decide +kernel) ?_
            refine iw_icmp_ne (off := 16) (tg := 70) (pc' := 57) hf (by decide +kernel) (fun hf => ?_) (fun hf => ?_)
            · refine iw_aload_n (i := 0) (pc' := 71) 0 rfl (by decide +kernel) ?_
              obtain ⟨v26, hc, hf⟩ := ic_bd hf
              refine iw_callV (pc' := 74) (S0 := []) (S1 := [.int v26]) (c1 := 0) (s1 := 0) (k := 0) (ct_X9_look l κ sw μ hc) cO_90 ⟨rfl, rfl⟩ mv_X9_look lkm_X9_78 ⟨rfl, rfl⟩ (ic_sum8 trivial (Nat.le_of_ble_eq_true rfl)) (by unfold ic_rm; decide +kernel) ⟨rfl, rfl, rfl⟩ ⟨Nat.le_of_ble_eq_true rfl, Nat.le_of_ble_eq_true rfl⟩ ?_
              refine iw_bipush (i := 99) (v := (99 : Int32)) (pc' := 76) (by decide +kernel) ?_
              refine iw_icmp_ne (off := 17) (tg := 93) (pc' := 79) hf (by decide +kernel) (fun hf => ?_) (fun hf => ?_)
              · refine iw_aload_n (i := 0) (pc' := 94) 0 rfl (by decide +kernel) ?_
                obtain ⟨v27, hc, hf⟩ := ic_bd hf
                refine iw_callV (pc' := 97) (S0 := []) (S1 := [.int v27]) (c1 := 0) (s1 := 0) (k := 0) (ct_X9_look l κ sw μ hc) cO_90 ⟨rfl, rfl⟩ mv_X9_look lkm_X9_78 ⟨rfl, rfl⟩ (ic_sum8 trivial (Nat.le_of_ble_eq_true rfl)) (by unfold ic_rm; decide +kernel) ⟨rfl, rfl, rfl⟩ ⟨Nat.le_of_ble_eq_true rfl, Nat.le_of_ble_eq_true rfl⟩ ?_
                refine iw_bipush (i := 110) (v := (110 : Int32)) (pc' := 99) (by decide +kernel) ?_
                refine iw_icmp_ne (off := 18) (tg := 117) (pc' := 102) hf (by decide +kernel) (fun hf => ?_) (fun hf => ?_)
                · refine iw_aload_n (i := 0) (pc' := 118) 0 rfl (by decide +kernel) ?_
                  obtain ⟨v28, hc, hf⟩ := ic_bd hf
                  refine iw_callV (pc' := 121) (S0 := []) (S1 := [.int v28]) (c1 := 0) (s1 := 0) (k := 0) (ct_X9_look l κ sw μ hc) cO_90 ⟨rfl, rfl⟩ mv_X9_look lkm_X9_78 ⟨rfl, rfl⟩ (ic_sum8 trivial (Nat.le_of_ble_eq_true rfl)) (by unfold ic_rm; decide +kernel) ⟨rfl, rfl, rfl⟩ ⟨Nat.le_of_ble_eq_true rfl, Nat.le_of_ble_eq_true rfl⟩ ?_
                  refine iw_bipush (i := 112) (v := (112 : Int32)) (pc' := 123) (by decide +kernel) ?_
                  refine iw_icmp_ne (off := 10) (tg := 133) (pc' := 126) hf (by decide +kernel) (fun hf => ?_) (fun hf => ?_)
                  · refine iw_aload_n (i := 0) (pc' := 134) 0 rfl (by decide +kernel) ?_
                    refine iw_iconst (i := 1) (v := (1 : Int32)) (pc' := 135) (by decide +kernel) ?_
                    obtain ⟨m29, hc, hf⟩ := ic_bd hf
                    refine iw_callV (pc' := 138) (S0 := []) (S1 := []) (c1 := 0) (s1 := 0) (k := 1) (ct_X9_fails l κ sw μ (1 : Int32) hc) cO_90 ⟨rfl, rfl⟩ mv_X9_fails lkm_X9_85 ⟨rfl, rfl⟩ (ic_sum8 trivial (Nat.le_of_ble_eq_true rfl)) (by unfold ic_rm; decide +kernel) ⟨rfl, rfl, rfl⟩ ⟨Nat.le_of_ble_eq_true rfl, Nat.le_of_ble_eq_true rfl⟩ ?_
                    obtain rfl := Option.some.inj hf
                    exact iw_sub [0] rfl hjq23
                  · refine iw_aload_n (i := 0) (pc' := 127) 0 rfl (by decide +kernel) ?_
                    obtain ⟨m30, hc, hf⟩ := ic_bd hf
                    refine iw_callV (pc' := 130) (S0 := []) (S1 := []) (c1 := 0) (s1 := 0) (k := 0) (ct_X9_readsPerson l κ sw μ hc) cO_90 ⟨rfl, rfl⟩ mv_X9_readsPerson lkm_X9_107 ⟨rfl, rfl⟩ (ic_sum8 trivial (Nat.le_of_ble_eq_true rfl)) (by unfold ic_rm; decide +kernel) ⟨rfl, rfl, rfl⟩ ⟨Nat.le_of_ble_eq_true rfl, Nat.le_of_ble_eq_true rfl⟩ ?_
                    refine iw_goto (off := 8) (pc' := 138) (by decide +kernel) ?_
                    obtain rfl := Option.some.inj hf
                    exact iw_sub [0] rfl hjq23
                · refine iw_aload_n (i := 0) (pc' := 103) 0 rfl (by decide +kernel) ?_
                  refine iw_bipush (i := 6) (v := (6 : Int32)) (pc' := 105) (by decide +kernel) ?_
                  refine iw_bipush (i := 24) (v := (24 : Int32)) (pc' := 107) (by decide +kernel) ?_
                  refine iw_bipush (i := 12) (v := (12 : Int32)) (pc' := 109) (by decide +kernel) ?_
                  refine iw_bipush (i := 20) (v := (20 : Int32)) (pc' := 111) (by decide +kernel) ?_
                  obtain ⟨m31, hc, hf⟩ := ic_bd hf
                  refine iw_callV (pc' := 114) (S0 := []) (S1 := []) (c1 := 0) (s1 := 0) (k := 4) (ct_X9_readsList l κ sw μ (6 : Int32) (24 : Int32) (12 : Int32) (20 : Int32) hc) cO_90 ⟨rfl, rfl⟩ mv_X9_readsList lkm_X9_103 ⟨rfl, rfl⟩ (ic_sum8 trivial (Nat.le_of_ble_eq_true rfl)) (by unfold ic_rm; decide +kernel) ⟨rfl, rfl, rfl⟩ ⟨Nat.le_of_ble_eq_true rfl, Nat.le_of_ble_eq_true rfl⟩ ?_
                  refine iw_goto (off := 24) (pc' := 138) (by decide +kernel) ?_
                  obtain rfl := Option.some.inj hf
                  exact iw_sub [0] rfl hjq23
              · refine iw_aload_n (i := 0) (pc' := 80) 0 rfl (by decide +kernel) ?_
                refine iw_iconst (i := 5) (v := (5 : Int32)) (pc' := 81) (by decide +kernel) ?_
                refine iw_bipush (i := 18) (v := (18 : Int32)) (pc' := 83) (by decide +kernel) ?_
                refine iw_bipush (i := 6) (v := (6 : Int32)) (pc' := 85) (by decide +kernel) ?_
                refine iw_bipush (i := 9) (v := (9 : Int32)) (pc' := 87) (by decide +kernel) ?_
                obtain ⟨m32, hc, hf⟩ := ic_bd hf
                refine iw_callV (pc' := 90) (S0 := []) (S1 := []) (c1 := 0) (s1 := 0) (k := 4) (ct_X9_readsList l κ sw μ (5 : Int32) (18 : Int32) (6 : Int32) (9 : Int32) hc) cO_90 ⟨rfl, rfl⟩ mv_X9_readsList lkm_X9_103 ⟨rfl, rfl⟩ (ic_sum8 trivial (Nat.le_of_ble_eq_true rfl)) (by unfold ic_rm; decide +kernel) ⟨rfl, rfl, rfl⟩ ⟨Nat.le_of_ble_eq_true rfl, Nat.le_of_ble_eq_true rfl⟩ ?_
                refine iw_goto (off := 48) (pc' := 138) (by decide +kernel) ?_
                obtain rfl := Option.some.inj hf
                exact iw_sub [0] rfl hjq23
            · refine iw_aload_n (i := 0) (pc' := 58) 0 rfl (by decide +kernel) ?_
              refine iw_iconst (i := 4) (v := (4 : Int32)) (pc' := 59) (by decide +kernel) ?_
              refine iw_iconst (i := 0) (v := (0 : Int32)) (pc' := 60) (by decide +kernel) ?_
              refine iw_bipush (i := 18) (v := (18 : Int32)) (pc' := 62) (by decide +kernel) ?_
              refine iw_bipush (i := 40) (v := (40 : Int32)) (pc' := 64) (by decide +kernel) ?_
              obtain ⟨m33, hc, hf⟩ := ic_bd hf
              refine iw_callV (pc' := 67) (S0 := []) (S1 := []) (c1 := 0) (s1 := 0) (k := 4) (ct_X9_readsList l κ sw μ (4 : Int32) (0 : Int32) (18 : Int32) (40 : Int32) hc) cO_90 ⟨rfl, rfl⟩ mv_X9_readsList lkm_X9_103 ⟨rfl, rfl⟩ (ic_sum8 trivial (Nat.le_of_ble_eq_true rfl)) (by unfold ic_rm; decide +kernel) ⟨rfl, rfl, rfl⟩ ⟨Nat.le_of_ble_eq_true rfl, Nat.le_of_ble_eq_true rfl⟩ ?_
              refine iw_goto (off := 71) (pc' := 138) (by decide +kernel) ?_
              obtain rfl := Option.some.inj hf
              exact iw_sub [0] rfl hjq23
          · refine iw_aload_n (i := 0) (pc' := 41) 0 rfl (by decide +kernel) ?_
            refine iw_iconst (i := 1) (v := (1 : Int32)) (pc' := 42) (by decide +kernel) ?_
            obtain ⟨m34, hc, hf⟩ := ic_bd hf
            refine iw_callV (pc' := 45) (S0 := []) (S1 := []) (c1 := 0) (s1 := 0) (k := 1) (ct_X9_fails l κ sw μ (1 : Int32) hc) cO_90 ⟨rfl, rfl⟩ mv_X9_fails lkm_X9_85 ⟨rfl, rfl⟩ (ic_sum8 trivial (Nat.le_of_ble_eq_true rfl)) (by unfold ic_rm; decide +kernel) ⟨rfl, rfl, rfl⟩ ⟨Nat.le_of_ble_eq_true rfl, Nat.le_of_ble_eq_true rfl⟩ ?_
            refine iw_goto (off := 93) (pc' := 138) (by decide +kernel) ?_
            obtain rfl := Option.some.inj hf
            exact iw_sub [0] rfl hjq23
        · refine iw_aload_n (i := 0) (pc' := 25) 0 rfl (by decide +kernel) ?_
          obtain ⟨m35, hc, hf⟩ := ic_bd hf
          refine iw_callV (pc' := 28) (S0 := []) (S1 := []) (c1 := 0) (s1 := 0) (k := 0) (ct_X9_readsRiver l κ sw μ hc) cO_90 ⟨rfl, rfl⟩ mv_X9_readsRiver lkm_X9_100 ⟨rfl, rfl⟩ (ic_sum8 trivial (Nat.le_of_ble_eq_true rfl)) (by unfold ic_rm; decide +kernel) ⟨rfl, rfl, rfl⟩ ⟨Nat.le_of_ble_eq_true rfl, Nat.le_of_ble_eq_true rfl⟩ ?_
          refine iw_goto (off := 110) (pc' := 138) (by decide +kernel) ?_
          obtain rfl := Option.some.inj hf
          exact iw_sub [0] rfl hjq23
set_option maxRecDepth 100000 in
set_option maxHeartbeats 4000000 in
theorem ct_X9_reads (l : Launch) (κ : ic_K) (sw : Nat) (μ : ic_M) {R : ic_M} (hf : fX9_reads μ = some R) : ic_C l κ MX9_reads [ic_rv κ.1 90] 106 (ic_rs sw) μ none 106 (ic_rs sw) R := by
  refine ic_C.of (L := [(0, ic_rv κ.1 90)]) ⟨ic_cat _ _, trivial⟩ ⟨by decide +kernel, Nat.le_of_ble_eq_true rfl⟩ rfl ?_
  unfold fX9_reads at hf
  obtain ⟨q37, hf, hgq37⟩ := ic_bd hf
  have hjq37 : ic_W l κ MX9_reads ic_X0 (ic_Z κ MX9_reads none 106 (ic_rs sw) R) 145 [] [] 106 (ic_rs sw) q37 0 0 := by
    have hf := hgq37
    exact iw_vreturn rfl (Option.some.inj hf) (by decide +kernel)
  exact iw_sub [0] rfl (lpX9_reads_0_ok l κ sw  hjq37 1000 μ hf)
set_option maxRecDepth 100000 in
set_option maxHeartbeats 4000000 in
theorem lpX9_copies_3_ok (l : Launch) (κ : ic_K) (sw : Nat) (r0_ : Nat) (x1_ : Int32) (r2_ : Nat) (x3_ : Int32) (x4_ : Int32) {Z : State → List Frame → Array Value → State → Prop} {R : ic_M} (hk : ic_W l κ MX9_copies ic_X0 Z 28 [] [] 106 (ic_rs sw) R 0 0) : ∀ (fu : Nat) (y5_ : Int32) (μ : ic_M), lpX9_copies_3 r0_ x1_ r2_ x3_ x4_ fu y5_ μ = some R → ic_W l κ MX9_copies ic_X0 Z 3 [(0, ic_rv κ.1 r0_), (1, .int x1_), (2, ic_rv κ.1 r2_), (3, .int x3_), (4, .int x4_), (5, .int y5_)] [] 106 (ic_rs sw) μ 0 0 := by
  intro fu
  induction fu with
  | zero =>
    intro y5_ μ hf
    exact absurd hf (by simp [lpX9_copies_3])
  | succ fu ih =>
    intro y5_ μ hf
    rw [lpX9_copies_3] at hf
    refine iw_iload (i := 5) (pc' := 5) 5 rfl (by decide +kernel) ?_
    refine iw_iload (i := 4) (pc' := 7) 4 rfl (by decide +kernel) ?_
    refine iw_icmp_ge (off := 21) (tg := 28) (pc' := 10) hf (by decide +kernel) (fun hf => ?_) (fun hf => ?_)
    · obtain rfl := Option.some.inj hf
      exact iw_sub [] rfl hk
    · refine iw_aload_n (i := 2) (pc' := 11) 2 rfl (by decide +kernel) ?_
      refine iw_iload_n (i := 3) (pc' := 12) 3 rfl (by decide +kernel) ?_
      refine iw_iload (i := 5) (pc' := 14) 5 rfl (by decide +kernel) ?_
      refine iw_iadd (pc' := 15) (by decide +kernel) ?_
      refine iw_aload_n (i := 0) (pc' := 16) 0 rfl (by decide +kernel) ?_
      refine iw_iload_n (i := 1) (pc' := 17) 1 rfl (by decide +kernel) ?_
      refine iw_iload (i := 5) (pc' := 19) 5 rfl (by decide +kernel) ?_
      refine iw_iadd (pc' := 20) (by decide +kernel) ?_
      refine iw_iald (pc' := 21) hf (fun h => ic_il_is h) (by decide +kernel) (fun v21 hf => ?_)
      refine iw_iast (pc' := 22) hf (fun h => ic_il_is h) (by decide +kernel) (fun m22 hf => ?_)
      refine iw_iinc (i := 5) (d := 1) (pc' := 25) (v := (1 : Int32)) (L1 := fun x23 => [(0, ic_rv κ.1 r0_), (1, .int x1_), (2, ic_rv κ.1 r2_), (3, .int x3_), (4, .int x4_), (5, .int x23)]) hf 5 rfl (fun _ => rfl) (by decide +kernel) (fun x23 hf => ?_)
      refine iw_goto (off := (-22)) (pc' := 3) (by decide +kernel) ?_
      exact iw_sub [0, 1, 2, 3, 4, 5] rfl (ih _ _ hf)
set_option maxRecDepth 100000 in
set_option maxHeartbeats 4000000 in
theorem ct_X9_copies (l : Launch) (κ : ic_K) (sw : Nat) (μ : ic_M) (r0 : Nat) (x1 : Int32) (r2 : Nat) (x3 : Int32) (x4 : Int32) {R : ic_M} (hf : fX9_copies μ r0 x1 r2 x3 x4 = some R) : ic_C l κ MX9_copies [ic_rv κ.1 r0, .int x1, ic_rv κ.1 r2, .int x3, .int x4] 106 (ic_rs sw) μ none 106 (ic_rs sw) R := by
  refine ic_C.of (L := [(0, ic_rv κ.1 r0), (1, .int x1), (2, ic_rv κ.1 r2), (3, .int x3), (4, .int x4)]) ⟨ic_cat _ _, rfl, ic_cat _ _, rfl, rfl, trivial⟩ ⟨by decide +kernel, Nat.le_of_ble_eq_true rfl⟩ rfl ?_
  unfold fX9_copies at hf
  refine iw_iconst (i := 0) (v := (0 : Int32)) (pc' := 1) (by decide +kernel) ?_
  refine iw_istore0 (i := 5) (pc' := 3) (L' := [(0, ic_rv κ.1 r0), (1, .int x1), (2, ic_rv κ.1 r2), (3, .int x3), (4, .int x4), (5, .int (0 : Int32))]) rfl (by decide +kernel) ?_
  obtain ⟨q24, hf, hgq24⟩ := ic_bd hf
  have hjq24 : ic_W l κ MX9_copies ic_X0 (ic_Z κ MX9_copies none 106 (ic_rs sw) R) 28 [] [] 106 (ic_rs sw) q24 0 0 := by
    have hf := hgq24
    exact iw_vreturn rfl (Option.some.inj hf) (by decide +kernel)
  exact iw_sub [0, 1, 2, 3, 4, 5] rfl (lpX9_copies_3_ok l κ sw r0 x1 r2 x3 x4 hjq24 1000 (0 : Int32) μ hf)
set_option maxRecDepth 100000 in
set_option maxHeartbeats 4000000 in
theorem lpX9_settles_2_ok (l : Launch) (κ : ic_K) (sw : Nat)  {Z : State → List Frame → Array Value → State → Prop} {R : ic_M} (hk : ic_W l κ MX9_settles ic_X0 Z 67 [] [] 106 (ic_rs sw) R 0 0) : ∀ (fu : Nat) (y1_ : Int32) (μ : ic_M), lpX9_settles_2  fu y1_ μ = some R → ic_W l κ MX9_settles ic_X0 Z 2 [(0, ic_rv κ.1 90), (1, .int y1_)] [] 106 (ic_rs sw) μ 0 0 := by
  intro fu
  induction fu with
  | zero =>
    intro y1_ μ hf
    exact absurd hf (by simp [lpX9_settles_2])
  | succ fu ih =>
    intro y1_ μ hf
    rw [lpX9_settles_2] at hf
    refine iw_iload_n (i := 1) (pc' := 3) 1 rfl (by decide +kernel) ?_
    refine iw_bipush (i := 7) (v := (7 : Int32)) (pc' := 5) (by decide +kernel) ?_
    refine iw_icmp_ge (off := 62) (tg := 67) (pc' := 8) hf (by decide +kernel) (fun hf => ?_) (fun hf => ?_)
    · obtain rfl := Option.some.inj hf
      exact iw_sub [] rfl hk
    · refine iw_aload_n (i := 0) (pc' := 9) 0 rfl (by decide +kernel) ?_
      refine iw_getr (pc' := 12) (q := 95) ic_fk9 cO_90 rfl lkf_X9_26 (by decide +kernel) ?_
      refine iw_iload_n (i := 1) (pc' := 13) 1 rfl (by decide +kernel) ?_
      refine iw_iald (pc' := 14) hf (fun _ => cI_95) (by decide +kernel) (fun v21 hf => ?_)
      obtain ⟨q22, hf, hgq22⟩ := ic_bd hf
      have hjq22 : ic_W l κ MX9_settles ic_X0 Z 61 [(0, ic_rv κ.1 90), (1, .int y1_)] [] 106 (ic_rs sw) q22 0 0 := by
        have hf := hgq22
        refine iw_iinc (i := 1) (d := 1) (pc' := 64) (v := (1 : Int32)) (L1 := fun x27 => [(0, ic_rv κ.1 90), (1, .int x27)]) hf 1 rfl (fun _ => rfl) (by decide +kernel) (fun x27 hf => ?_)
        refine iw_goto (off := (-62)) (pc' := 2) (by decide +kernel) ?_
        exact iw_sub [0, 1] rfl (ih _ _ hf)
      refine iw_if_ne (off := 47) (tg := 61) (pc' := 17) hf (by decide +kernel) (fun hf => ?_) (fun hf => ?_)
      · obtain rfl := Option.some.inj hf
        exact iw_sub [0, 1] rfl hjq22
      · refine iw_aload_n (i := 0) (pc' := 18) 0 rfl (by decide +kernel) ?_
        refine iw_getr (pc' := 21) (q := 96) ic_fk9 cO_90 rfl lkf_X9_29 (by decide +kernel) ?_
        refine iw_iload_n (i := 1) (pc' := 22) 1 rfl (by decide +kernel) ?_
        refine iw_iconst (i := 4) (v := (4 : Int32)) (pc' := 23) (by decide +kernel) ?_
        obtain ⟨q23, hf, hgq23⟩ := ic_bd hf
        have hjq23 : ic_W l κ MX9_settles ic_X0 Z 42 [(0, ic_rv κ.1 90), (1, .int y1_)] [.int q23, ic_rv κ.1 96] 106 (ic_rs sw) μ 0 0 := by
          have hf := hgq23
          refine iw_iload_n (i := 1) (pc' := 43) 1 rfl (by decide +kernel) ?_
          refine iw_iconst (i := 5) (v := (5 : Int32)) (pc' := 44) (by decide +kernel) ?_
          obtain ⟨q24, hf, hgq24⟩ := ic_bd hf
          have hjq24 : ic_W l κ MX9_settles ic_X0 Z 53 [(0, ic_rv κ.1 90), (1, .int y1_)] [.int q24, .int q23, ic_rv κ.1 96] 106 (ic_rs sw) μ 0 0 := by
            have hf := hgq24
            refine iw_iast (pc' := 54) hf (fun _ => cI_96) (by decide +kernel) (fun m25 hf => ?_)
            refine iw_aload_n (i := 0) (pc' := 55) 0 rfl (by decide +kernel) ?_
            refine iw_getr (pc' := 58) (q := 95) ic_fk9 cO_90 rfl lkf_X9_26 (by decide +kernel) ?_
            refine iw_iload_n (i := 1) (pc' := 59) 1 rfl (by decide +kernel) ?_
            refine iw_iconst (i := 1) (v := (1 : Int32)) (pc' := 60) (by decide +kernel) ?_
            refine iw_iast (pc' := 61) hf (fun _ => cI_95) (by decide +kernel) (fun m26 hf => ?_)
            obtain rfl := Option.some.inj hf
            exact iw_sub [0, 1] rfl hjq22
          refine iw_icmp_ne (off := 7) (tg := 51) (pc' := 47) hf (by decide +kernel) (fun hf => ?_) (fun hf => ?_)
          · refine iw_bipush (i := 10) (v := (10 : Int32)) (pc' := 53) (by decide +kernel) ?_
            obtain rfl := Option.some.inj hf
            exact iw_sub [0, 1] rfl hjq24
          · refine iw_iconst (i := 0) (v := (0 : Int32)) (pc' := 48) (by decide +kernel) ?_
            refine iw_goto (off := 5) (pc' := 53) (by decide +kernel) ?_
            obtain rfl := Option.some.inj hf
            exact iw_sub [0, 1] rfl hjq24
        refine iw_icmp_ne (off := 7) (tg := 30) (pc' := 26) hf (by decide +kernel) (fun hf => ?_) (fun hf => ?_)
        · refine iw_iload_n (i := 1) (pc' := 31) 1 rfl (by decide +kernel) ?_
          refine iw_iconst (i := 5) (v := (5 : Int32)) (pc' := 32) (by decide +kernel) ?_
          refine iw_icmp_ne (off := 8) (tg := 40) (pc' := 35) hf (by decide +kernel) (fun hf => ?_) (fun hf => ?_)
          · refine iw_bipush (i := 24) (v := (24 : Int32)) (pc' := 42) (by decide +kernel) ?_
            obtain rfl := Option.some.inj hf
            exact iw_sub [0, 1] rfl hjq23
          · refine iw_bipush (i := 18) (v := (18 : Int32)) (pc' := 37) (by decide +kernel) ?_
            refine iw_goto (off := 5) (pc' := 42) (by decide +kernel) ?_
            obtain rfl := Option.some.inj hf
            exact iw_sub [0, 1] rfl hjq23
        · refine iw_iconst (i := 0) (v := (0 : Int32)) (pc' := 27) (by decide +kernel) ?_
          refine iw_goto (off := 15) (pc' := 42) (by decide +kernel) ?_
          obtain rfl := Option.some.inj hf
          exact iw_sub [0, 1] rfl hjq23
set_option maxRecDepth 100000 in
set_option maxHeartbeats 4000000 in
theorem ct_X9_settles (l : Launch) (κ : ic_K) (sw : Nat) (μ : ic_M) {R : ic_M} (hf : fX9_settles μ = some R) : ic_C l κ MX9_settles [ic_rv κ.1 90] 106 (ic_rs sw) μ none 106 (ic_rs sw) R := by
  refine ic_C.of (L := [(0, ic_rv κ.1 90)]) ⟨ic_cat _ _, trivial⟩ ⟨by decide +kernel, Nat.le_of_ble_eq_true rfl⟩ rfl ?_
  unfold fX9_settles at hf
  refine iw_iconst (i := 4) (v := (4 : Int32)) (pc' := 1) (by decide +kernel) ?_
  refine iw_istore_n0 (i := 1) (pc' := 2) (L' := [(0, ic_rv κ.1 90), (1, .int (4 : Int32))]) rfl (by decide +kernel) ?_
  obtain ⟨q28, hf, hgq28⟩ := ic_bd hf
  have hjq28 : ic_W l κ MX9_settles ic_X0 (ic_Z κ MX9_settles none 106 (ic_rs sw) R) 67 [] [] 106 (ic_rs sw) q28 0 0 := by
    have hf := hgq28
    exact iw_vreturn rfl (Option.some.inj hf) (by decide +kernel)
  exact iw_sub [0, 1] rfl (lpX9_settles_2_ok l κ sw  hjq28 1000 (4 : Int32) μ hf)
