def MX9_seed : ic_Md := (yX9_seed, cX9_seed, 3, (some .int), { frames := 0, cells := 0, slots := 0, locals := 0 })
theorem mv_X9_seed : ic_MV MX9_seed := ⟨ic_in 1294 (by decide +kernel), ic_in 1295 (by decide +kernel), ic_in 79 (by decide +kernel), ic_in 1296 (by decide +kernel), by decide +kernel, by decide +kernel⟩
def MX9_keep : ic_Md := (yX9_keep, cX9_keep, 2, (some .int), { frames := 1, cells := 0, slots := 0, locals := 25 })
theorem mv_X9_keep : ic_MV MX9_keep := ⟨ic_in 1298 (by decide +kernel), ic_in 1299 (by decide +kernel), ic_in 79 (by decide +kernel), ic_in 1300 (by decide +kernel), by decide +kernel, by decide +kernel⟩
def MX9_goBack : ic_Md := (yX9_goBack, cX9_goBack, 2, (some .int), { frames := 1, cells := 0, slots := 0, locals := 25 })
theorem mv_X9_goBack : ic_MV MX9_goBack := ⟨ic_in 1302 (by decide +kernel), ic_in 1303 (by decide +kernel), ic_in 79 (by decide +kernel), ic_in 1304 (by decide +kernel), by decide +kernel, by decide +kernel⟩
theorem lkf_X9_44 : Cond.fieldLink RX9 44 RX9 (TX9 13).2.1 (TX9 13).2.2.1 ∈ ic_tb := ic_in 906 (by decide +kernel)
theorem lkf_X9_47 : Cond.fieldLink RX9 47 RX9 (TX9 14).2.1 (TX9 14).2.2.1 ∈ ic_tb := ic_in 907 (by decide +kernel)
def fX9_seed (μ : ic_M) (x1 : Int32) : Option (Int32 × ic_M) := (if 0 ≤ x1 then ic_lt ((μ 90 16)) (fun x21 => ic_pu μ 90 16 x1 (fun m22 => some (x21, m22))) else some ((-1000000002 : Int32), μ))
def fX9_keep (μ : ic_M) (x1 : Int32) : Option (Int32 × ic_M) := Option.bind (fX9_in μ x1 (0 : Int32) (1 : Int32)) (fun v21 => (if v21 = 0 then some ((-1000000001 : Int32), μ) else Option.bind (fX9_copies μ 98 (0 : Int32) 101 ((28 : Int32) * x1) (28 : Int32)) (fun m22 => ic_as m22 102 2 x1 (m22 90 16) (fun m23 => ic_az m23 103 2 x1 (1 : Int32) (fun m24 => ic_pu m24 90 12 (0 : Int32) (fun m25 => some ((1 : Int32), m25)))))))
def fX9_goBack (μ : ic_M) (x1 : Int32) : Option (Int32 × ic_M) := Option.bind (fX9_in μ x1 (0 : Int32) (1 : Int32)) (fun v21 => (if v21 = 0 then some ((-1000000001 : Int32), μ) else ic_ag μ 103 2 x1 (fun v22 => (if v22 = 0 then some ((-1000000003 : Int32), μ) else Option.bind (fX9_copies μ 101 ((28 : Int32) * x1) 98 (0 : Int32) (28 : Int32)) (fun m23 => ic_ag m23 102 2 x1 (fun v24 => ic_pu m23 90 16 v24 (fun m25 => ic_pu m25 90 12 (0 : Int32) (fun m26 => some ((1 : Int32), m26)))))))))
set_option maxRecDepth 100000 in
set_option maxHeartbeats 4000000 in
theorem ct_X9_seed (l : Launch) (κ : ic_K) (sw : Nat) (μ : ic_M) (x1 : Int32) {R : Int32 × ic_M} (hf : fX9_seed μ x1 = some R) : ic_C l κ MX9_seed [ic_rv κ.1 90, .int x1] 106 (ic_rs sw) μ (some (.int R.1)) 106 (ic_rs sw) R.2 := by
  refine ic_C.of (L := [(0, ic_rv κ.1 90), (1, .int x1)]) ⟨ic_cat _ _, rfl, trivial⟩ ⟨by decide +kernel, Nat.le_of_ble_eq_true rfl⟩ rfl ?_
  unfold fX9_seed at hf
  refine iw_iload_n (i := 1) (pc' := 1) 1 rfl (by decide +kernel) ?_
  refine iw_if_ge (off := 6) (tg := 7) (pc' := 4) hf (by decide +kernel) (fun hf => ?_) (fun hf => ?_)
  · refine iw_aload_n (i := 0) (pc' := 8) 0 rfl (by decide +kernel) ?_
    refine iw_geti (pc' := 11) ic_fk9 cO_90 lkf_X9_220 (by decide +kernel) ?_
    refine iw_istore_n (i := 2) (pc' := 12) (L1 := fun x21 => [(0, ic_rv κ.1 90), (1, .int x1), (2, .int x21)]) hf (fun _ => rfl) (by decide +kernel) (fun x21 hf => ?_)
    refine iw_aload_n (i := 0) (pc' := 13) 0 rfl (by decide +kernel) ?_
    refine iw_iload_n (i := 1) (pc' := 14) 1 rfl (by decide +kernel) ?_
    refine iw_put (pc' := 17) hf ic_fk9 cO_90 lkf_X9_220 (by decide +kernel) (fun m22 hf => ?_)
    refine iw_iload_n (i := 2) (pc' := 18) 2 rfl (by decide +kernel) ?_
    exact iw_ireturn (ic_q1 (Option.some.inj hf)) rfl (ic_q2 (Option.some.inj hf)) (by decide +kernel)
  · refine iw_ldc (pc' := 6) lkc_X9_67 (by decide +kernel) ?_
    exact iw_ireturn (ic_q1 (Option.some.inj hf)) rfl (ic_q2 (Option.some.inj hf)) (by decide +kernel)
set_option maxRecDepth 100000 in
set_option maxHeartbeats 4000000 in
theorem ct_X9_keep (l : Launch) (κ : ic_K) (sw : Nat) (μ : ic_M) (x1 : Int32) {R : Int32 × ic_M} (hf : fX9_keep μ x1 = some R) : ic_C l κ MX9_keep [ic_rv κ.1 90, .int x1] 106 (ic_rs sw) μ (some (.int R.1)) 106 (ic_rs sw) R.2 := by
  refine ic_C.of (L := [(0, ic_rv κ.1 90), (1, .int x1)]) ⟨ic_cat _ _, rfl, trivial⟩ ⟨by decide +kernel, Nat.le_of_ble_eq_true rfl⟩ rfl ?_
  unfold fX9_keep at hf
  refine iw_iload_n (i := 1) (pc' := 1) 1 rfl (by decide +kernel) ?_
  refine iw_iconst (i := 0) (v := (0 : Int32)) (pc' := 2) (by decide +kernel) ?_
  refine iw_iconst (i := 1) (v := (1 : Int32)) (pc' := 3) (by decide +kernel) ?_
  obtain ⟨v21, hc, hf⟩ := ic_bd hf
  refine iw_callS (pc' := 6) (S0 := []) (S1 := [.int v21]) (c1 := 0) (s1 := 0) (k := 3) (ct_X9_in l κ sw μ x1 (0 : Int32) (1 : Int32) hc) ms_X9_in lkm_X9_63 ⟨rfl, rfl⟩ (ic_sum8 trivial (Nat.le_of_ble_eq_true rfl)) (by unfold ic_rm; decide +kernel) ⟨rfl, rfl, rfl⟩ ⟨Nat.le_of_ble_eq_true rfl, Nat.le_of_ble_eq_true rfl⟩ ?_
  refine iw_if_ne (off := 6) (tg := 12) (pc' := 9) hf (by decide +kernel) (fun hf => ?_) (fun hf => ?_)
  · refine iw_aload_n (i := 0) (pc' := 13) 0 rfl (by decide +kernel) ?_
    refine iw_getr (pc' := 16) (q := 98) ic_fk9 cO_90 rfl lkf_X9_35 (by decide +kernel) ?_
    refine iw_iconst (i := 0) (v := (0 : Int32)) (pc' := 17) (by decide +kernel) ?_
    refine iw_aload_n (i := 0) (pc' := 18) 0 rfl (by decide +kernel) ?_
    refine iw_getr (pc' := 21) (q := 101) ic_fk9 cO_90 rfl lkf_X9_44 (by decide +kernel) ?_
    refine iw_bipush (i := 28) (v := (28 : Int32)) (pc' := 23) (by decide +kernel) ?_
    refine iw_iload_n (i := 1) (pc' := 24) 1 rfl (by decide +kernel) ?_
    refine iw_imul (pc' := 25) (by decide +kernel) ?_
    refine iw_bipush (i := 28) (v := (28 : Int32)) (pc' := 27) (by decide +kernel) ?_
    obtain ⟨m22, hc, hf⟩ := ic_bd hf
    refine iw_callS (pc' := 30) (S0 := []) (S1 := []) (c1 := 0) (s1 := 0) (k := 5) (ct_X9_copies l κ sw μ 98 (0 : Int32) 101 ((28 : Int32) * x1) (28 : Int32) hc) ms_X9_copies lkm_X9_116 ⟨rfl, rfl⟩ (ic_sum8 trivial (Nat.le_of_ble_eq_true rfl)) (by unfold ic_rm; decide +kernel) ⟨rfl, rfl, rfl⟩ ⟨Nat.le_of_ble_eq_true rfl, Nat.le_of_ble_eq_true rfl⟩ ?_
    refine iw_aload_n (i := 0) (pc' := 31) 0 rfl (by decide +kernel) ?_
    refine iw_getr (pc' := 34) (q := 102) ic_fk9 cO_90 rfl lkf_X9_47 (by decide +kernel) ?_
    refine iw_iload_n (i := 1) (pc' := 35) 1 rfl (by decide +kernel) ?_
    refine iw_aload_n (i := 0) (pc' := 36) 0 rfl (by decide +kernel) ?_
    refine iw_geti (pc' := 39) ic_fk9 cO_90 lkf_X9_220 (by decide +kernel) ?_
    refine iw_iast (pc' := 40) hf (fun _ => cI_102) (by decide +kernel) (fun m23 hf => ?_)
    refine iw_aload_n (i := 0) (pc' := 41) 0 rfl (by decide +kernel) ?_
    refine iw_getr (pc' := 44) (q := 103) ic_fk9 cO_90 rfl lkf_X9_50 (by decide +kernel) ?_
    refine iw_iload_n (i := 1) (pc' := 45) 1 rfl (by decide +kernel) ?_
    refine iw_iconst (i := 1) (v := (1 : Int32)) (pc' := 46) (by decide +kernel) ?_
    refine iw_zast (pc' := 47) hf cZ_103 (by decide +kernel) (fun m24 hf => ?_)
    refine iw_aload_n (i := 0) (pc' := 48) 0 rfl (by decide +kernel) ?_
    refine iw_iconst (i := 0) (v := (0 : Int32)) (pc' := 49) (by decide +kernel) ?_
    refine iw_put (pc' := 52) hf ic_fk9 cO_90 lkf_X9_123 (by decide +kernel) (fun m25 hf => ?_)
    refine iw_iconst (i := 1) (v := (1 : Int32)) (pc' := 53) (by decide +kernel) ?_
    exact iw_ireturn (ic_q1 (Option.some.inj hf)) rfl (ic_q2 (Option.some.inj hf)) (by decide +kernel)
  · refine iw_ldc (pc' := 11) lkc_X9_194 (by decide +kernel) ?_
    exact iw_ireturn (ic_q1 (Option.some.inj hf)) rfl (ic_q2 (Option.some.inj hf)) (by decide +kernel)
set_option maxRecDepth 100000 in
set_option maxHeartbeats 4000000 in
theorem ct_X9_goBack (l : Launch) (κ : ic_K) (sw : Nat) (μ : ic_M) (x1 : Int32) {R : Int32 × ic_M} (hf : fX9_goBack μ x1 = some R) : ic_C l κ MX9_goBack [ic_rv κ.1 90, .int x1] 106 (ic_rs sw) μ (some (.int R.1)) 106 (ic_rs sw) R.2 := by
  refine ic_C.of (L := [(0, ic_rv κ.1 90), (1, .int x1)]) ⟨ic_cat _ _, rfl, trivial⟩ ⟨by decide +kernel, Nat.le_of_ble_eq_true rfl⟩ rfl ?_
  unfold fX9_goBack at hf
  refine iw_iload_n (i := 1) (pc' := 1) 1 rfl (by decide +kernel) ?_
  refine iw_iconst (i := 0) (v := (0 : Int32)) (pc' := 2) (by decide +kernel) ?_
  refine iw_iconst (i := 1) (v := (1 : Int32)) (pc' := 3) (by decide +kernel) ?_
  obtain ⟨v21, hc, hf⟩ := ic_bd hf
  refine iw_callS (pc' := 6) (S0 := []) (S1 := [.int v21]) (c1 := 0) (s1 := 0) (k := 3) (ct_X9_in l κ sw μ x1 (0 : Int32) (1 : Int32) hc) ms_X9_in lkm_X9_63 ⟨rfl, rfl⟩ (ic_sum8 trivial (Nat.le_of_ble_eq_true rfl)) (by unfold ic_rm; decide +kernel) ⟨rfl, rfl, rfl⟩ ⟨Nat.le_of_ble_eq_true rfl, Nat.le_of_ble_eq_true rfl⟩ ?_
  refine iw_if_ne (off := 6) (tg := 12) (pc' := 9) hf (by decide +kernel) (fun hf => ?_) (fun hf => ?_)
  · refine iw_aload_n (i := 0) (pc' := 13) 0 rfl (by decide +kernel) ?_
    refine iw_getr (pc' := 16) (q := 103) ic_fk9 cO_90 rfl lkf_X9_50 (by decide +kernel) ?_
    refine iw_iload_n (i := 1) (pc' := 17) 1 rfl (by decide +kernel) ?_
    refine iw_zald (pc' := 18) hf cZ_103 (by decide +kernel) (fun v22 hf => ?_)
    refine iw_if_ne (off := 6) (tg := 24) (pc' := 21) hf (by decide +kernel) (fun hf => ?_) (fun hf => ?_)
    · refine iw_aload_n (i := 0) (pc' := 25) 0 rfl (by decide +kernel) ?_
      refine iw_getr (pc' := 28) (q := 101) ic_fk9 cO_90 rfl lkf_X9_44 (by decide +kernel) ?_
      refine iw_bipush (i := 28) (v := (28 : Int32)) (pc' := 30) (by decide +kernel) ?_
      refine iw_iload_n (i := 1) (pc' := 31) 1 rfl (by decide +kernel) ?_
      refine iw_imul (pc' := 32) (by decide +kernel) ?_
      refine iw_aload_n (i := 0) (pc' := 33) 0 rfl (by decide +kernel) ?_
      refine iw_getr (pc' := 36) (q := 98) ic_fk9 cO_90 rfl lkf_X9_35 (by decide +kernel) ?_
      refine iw_iconst (i := 0) (v := (0 : Int32)) (pc' := 37) (by decide +kernel) ?_
      refine iw_bipush (i := 28) (v := (28 : Int32)) (pc' := 39) (by decide +kernel) ?_
      obtain ⟨m23, hc, hf⟩ := ic_bd hf
      refine iw_callS (pc' := 42) (S0 := []) (S1 := []) (c1 := 0) (s1 := 0) (k := 5) (ct_X9_copies l κ sw μ 101 ((28 : Int32) * x1) 98 (0 : Int32) (28 : Int32) hc) ms_X9_copies lkm_X9_116 ⟨rfl, rfl⟩ (ic_sum8 trivial (Nat.le_of_ble_eq_true rfl)) (by unfold ic_rm; decide +kernel) ⟨rfl, rfl, rfl⟩ ⟨Nat.le_of_ble_eq_true rfl, Nat.le_of_ble_eq_true rfl⟩ ?_
      refine iw_aload_n (i := 0) (pc' := 43) 0 rfl (by decide +kernel) ?_
      refine iw_aload_n (i := 0) (pc' := 44) 0 rfl (by decide +kernel) ?_
      refine iw_getr (pc' := 47) (q := 102) ic_fk9 cO_90 rfl lkf_X9_47 (by decide +kernel) ?_
      refine iw_iload_n (i := 1) (pc' := 48) 1 rfl (by decide +kernel) ?_
      refine iw_iald (pc' := 49) hf (fun _ => cI_102) (by decide +kernel) (fun v24 hf => ?_)
      refine iw_put (pc' := 52) hf ic_fk9 cO_90 lkf_X9_220 (by decide +kernel) (fun m25 hf => ?_)
      refine iw_aload_n (i := 0) (pc' := 53) 0 rfl (by decide +kernel) ?_
      refine iw_iconst (i := 0) (v := (0 : Int32)) (pc' := 54) (by decide +kernel) ?_
      refine iw_put (pc' := 57) hf ic_fk9 cO_90 lkf_X9_123 (by decide +kernel) (fun m26 hf => ?_)
      refine iw_iconst (i := 1) (v := (1 : Int32)) (pc' := 58) (by decide +kernel) ?_
      exact iw_ireturn (ic_q1 (Option.some.inj hf)) rfl (ic_q2 (Option.some.inj hf)) (by decide +kernel)
    · refine iw_ldc (pc' := 23) lkc_X9_202 (by decide +kernel) ?_
      exact iw_ireturn (ic_q1 (Option.some.inj hf)) rfl (ic_q2 (Option.some.inj hf)) (by decide +kernel)
  · refine iw_ldc (pc' := 11) lkc_X9_194 (by decide +kernel) ?_
    exact iw_ireturn (ic_q1 (Option.some.inj hf)) rfl (ic_q2 (Option.some.inj hf)) (by decide +kernel)
