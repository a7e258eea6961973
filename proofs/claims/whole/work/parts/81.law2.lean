def ic_offs : Array Int := #[151, 174, 187, 200, 223, 256, 289, 312, 335, 368, 411, 460, 473, 496, 509, 542, 575, 608, 641, 664, 687, 720, 743, 806, 839, 872, 921, 944, 957, 990, 1003, 1016, 1039, 1062]
set_option maxRecDepth 100000 in
set_option maxHeartbeats 4000000 in
theorem ic_sw {l : Launch} {κ : ic_K} {b Ls : Nat} {xs : Nat → Int32} {i v : Int32} {sw : Nat} {μ : ic_M} (hI : ic_I sw μ) (hin1 : vp_in (i + (1 : Int32)) Ls) (hin2 : vp_in (i + (2 : Int32)) Ls) (hin3 : vp_in (i + (3 : Int32)) Ls) (hin4 : vp_in (i + (4 : Int32)) Ls) (hin5 : vp_in (i + (5 : Int32)) Ls) (next : ∀ (sw : Nat) (μ : ic_M), ic_I sw μ → ic_W l κ ic_law (ic_XL κ b Ls xs) ic_ZL 1118 [(0, .ref b), (1, ic_rv κ.1 1), (2, ic_rv κ.1 90), (3, .int i)] [] 106 (ic_rs sw) μ 106 2181) : ic_W l κ ic_law (ic_XL κ b Ls xs) ic_ZL 33 [(0, .ref b), (1, ic_rv κ.1 1), (2, ic_rv κ.1 90), (3, .int i)] [.int v] 106 (ic_rs sw) μ 106 2181 := by
  by_cases hv0 : v = (0 : Int32)
  · exact iw_tableIn (v := (0 : Int32)) (dflt := 1085) (lo := 0) (hi := 33) (off := 151) (offs := ic_offs) (len := 151) (tg := 184) hv0 (by decide +kernel) (lc_feed hI hin1 hin2 hin3 hin4 hin5 next)
  by_cases hv1 : v = (1 : Int32)
  · exact iw_tableIn (v := (1 : Int32)) (dflt := 1085) (lo := 0) (hi := 33) (off := 174) (offs := ic_offs) (len := 151) (tg := 207) hv1 (by decide +kernel) (lc_river hI hin1 hin2 hin3 hin4 hin5 next)
  by_cases hv2 : v = (2 : Int32)
  · exact iw_tableIn (v := (2 : Int32)) (dflt := 1085) (lo := 0) (hi := 33) (off := 187) (offs := ic_offs) (len := 151) (tg := 220) hv2 (by decide +kernel) (lc_fault hI hin1 hin2 hin3 hin4 hin5 next)
  by_cases hv3 : v = (3 : Int32)
  · exact iw_tableIn (v := (3 : Int32)) (dflt := 1085) (lo := 0) (hi := 33) (off := 200) (offs := ic_offs) (len := 151) (tg := 233) hv3 (by decide +kernel) (lc_told hI hin1 hin2 hin3 hin4 hin5 next)
  by_cases hv4 : v = (4 : Int32)
  · exact iw_tableIn (v := (4 : Int32)) (dflt := 1085) (lo := 0) (hi := 33) (off := 223) (offs := ic_offs) (len := 151) (tg := 256) hv4 (by decide +kernel) (lc_cell hI hin1 hin2 hin3 hin4 hin5 next)
  by_cases hv5 : v = (5 : Int32)
  · exact iw_tableIn (v := (5 : Int32)) (dflt := 1085) (lo := 0) (hi := 33) (off := 256) (offs := ic_offs) (len := 151) (tg := 289) hv5 (by decide +kernel) (lc_person hI hin1 hin2 hin3 hin4 hin5 next)
  by_cases hv6 : v = (6 : Int32)
  · exact iw_tableIn (v := (6 : Int32)) (dflt := 1085) (lo := 0) (hi := 33) (off := 289) (offs := ic_offs) (len := 151) (tg := 322) hv6 (by decide +kernel) (lc_cold hI hin1 hin2 hin3 hin4 hin5 next)
  by_cases hv7 : v = (7 : Int32)
  · exact iw_tableIn (v := (7 : Int32)) (dflt := 1085) (lo := 0) (hi := 33) (off := 312) (offs := ic_offs) (len := 151) (tg := 345) hv7 (by decide +kernel) (lc_night hI hin1 hin2 hin3 hin4 hin5 next)
  by_cases hv8 : v = (8 : Int32)
  · exact iw_tableIn (v := (8 : Int32)) (dflt := 1085) (lo := 0) (hi := 33) (off := 335) (offs := ic_offs) (len := 151) (tg := 368) hv8 (by decide +kernel) (lc_step hI hin1 hin2 hin3 hin4 hin5 next)
  by_cases hv9 : v = (9 : Int32)
  · exact iw_tableIn (v := (9 : Int32)) (dflt := 1085) (lo := 0) (hi := 33) (off := 368) (offs := ic_offs) (len := 151) (tg := 401) hv9 (by decide +kernel) (lc_salt hI hin1 hin2 hin3 hin4 hin5 next)
  by_cases hv10 : v = (10 : Int32)
  · exact iw_tableIn (v := (10 : Int32)) (dflt := 1085) (lo := 0) (hi := 33) (off := 411) (offs := ic_offs) (len := 151) (tg := 444) hv10 (by decide +kernel) (lc_snow hI hin1 hin2 hin3 hin4 hin5 next)
  by_cases hv11 : v = (11 : Int32)
  · exact iw_tableIn (v := (11 : Int32)) (dflt := 1085) (lo := 0) (hi := 33) (off := 460) (offs := ic_offs) (len := 151) (tg := 493) hv11 (by decide +kernel) (lc_spring hI hin1 hin2 hin3 hin4 hin5 next)
  by_cases hv12 : v = (12 : Int32)
  · exact iw_tableIn (v := (12 : Int32)) (dflt := 1085) (lo := 0) (hi := 33) (off := 473) (offs := ic_offs) (len := 151) (tg := 506) hv12 (by decide +kernel) (lc_drift hI hin1 hin2 hin3 hin4 hin5 next)
  by_cases hv13 : v = (13 : Int32)
  · exact iw_tableIn (v := (13 : Int32)) (dflt := 1085) (lo := 0) (hi := 33) (off := 496) (offs := ic_offs) (len := 151) (tg := 529) hv13 (by decide +kernel) (lc_undo hI hin1 hin2 hin3 hin4 hin5 next)
  by_cases hv14 : v = (14 : Int32)
  · exact iw_tableIn (v := (14 : Int32)) (dflt := 1085) (lo := 0) (hi := 33) (off := 509) (offs := ic_offs) (len := 151) (tg := 542) hv14 (by decide +kernel) (lc_then hI hin1 hin2 hin3 hin4 hin5 next)
  by_cases hv15 : v = (15 : Int32)
  · exact iw_tableIn (v := (15 : Int32)) (dflt := 1085) (lo := 0) (hi := 33) (off := 542) (offs := ic_offs) (len := 151) (tg := 575) hv15 (by decide +kernel) (lc_when hI hin1 hin2 hin3 hin4 hin5 next)
  by_cases hv16 : v = (16 : Int32)
  · exact iw_tableIn (v := (16 : Int32)) (dflt := 1085) (lo := 0) (hi := 33) (off := 575) (offs := ic_offs) (len := 151) (tg := 608) hv16 (by decide +kernel) (lc_noMore hI hin1 hin2 hin3 hin4 hin5 next)
  by_cases hv17 : v = (17 : Int32)
  · exact iw_tableIn (v := (17 : Int32)) (dflt := 1085) (lo := 0) (hi := 33) (off := 608) (offs := ic_offs) (len := 151) (tg := 641) hv17 (by decide +kernel) (lc_over hI hin1 hin2 hin3 hin4 hin5 next)
  by_cases hv18 : v = (18 : Int32)
  · exact iw_tableIn (v := (18 : Int32)) (dflt := 1085) (lo := 0) (hi := 33) (off := 641) (offs := ic_offs) (len := 151) (tg := 674) hv18 (by decide +kernel) (lc_fewest hI hin1 hin2 hin3 hin4 hin5 next)
  by_cases hv19 : v = (19 : Int32)
  · exact iw_tableIn (v := (19 : Int32)) (dflt := 1085) (lo := 0) (hi := 33) (off := 664) (offs := ic_offs) (len := 151) (tg := 697) hv19 (by decide +kernel) (lc_leastSalt hI hin1 hin2 hin3 hin4 hin5 next)
  by_cases hv20 : v = (20 : Int32)
  · exact iw_tableIn (v := (20 : Int32)) (dflt := 1085) (lo := 0) (hi := 33) (off := 687) (offs := ic_offs) (len := 151) (tg := 720) hv20 (by decide +kernel) (lc_lives hI hin1 hin2 hin3 hin4 hin5 next)
  by_cases hv21 : v = (21 : Int32)
  · exact iw_tableIn (v := (21 : Int32)) (dflt := 1085) (lo := 0) (hi := 33) (off := 720) (offs := ic_offs) (len := 151) (tg := 753) hv21 (by decide +kernel) (lc_heard hI hin1 hin2 hin3 hin4 hin5 next)
  by_cases hv22 : v = (22 : Int32)
  · exact iw_tableIn (v := (22 : Int32)) (dflt := 1085) (lo := 0) (hi := 33) (off := 743) (offs := ic_offs) (len := 151) (tg := 776) hv22 (by decide +kernel) (lc_game hI hin1 hin2 hin3 hin4 hin5 next)
  by_cases hv23 : v = (23 : Int32)
  · exact iw_tableIn (v := (23 : Int32)) (dflt := 1085) (lo := 0) (hi := 33) (off := 806) (offs := ic_offs) (len := 151) (tg := 839) hv23 (by decide +kernel) (lc_tolls hI hin1 hin2 hin3 hin4 hin5 next)
  by_cases hv24 : v = (24 : Int32)
  · exact iw_tableIn (v := (24 : Int32)) (dflt := 1085) (lo := 0) (hi := 33) (off := 839) (offs := ic_offs) (len := 151) (tg := 872) hv24 (by decide +kernel) (lc_thaw hI hin1 hin2 hin3 hin4 hin5 next)
  by_cases hv25 : v = (25 : Int32)
  · exact iw_tableIn (v := (25 : Int32)) (dflt := 1085) (lo := 0) (hi := 33) (off := 872) (offs := ic_offs) (len := 151) (tg := 905) hv25 (by decide +kernel) (lc_see hI hin1 hin2 hin3 hin4 hin5 next)
  by_cases hv26 : v = (26 : Int32)
  · exact iw_tableIn (v := (26 : Int32)) (dflt := 1085) (lo := 0) (hi := 33) (off := 921) (offs := ic_offs) (len := 151) (tg := 954) hv26 (by decide +kernel) (lc_who hI hin1 hin2 hin3 hin4 hin5 next)
  by_cases hv27 : v = (27 : Int32)
  · exact iw_tableIn (v := (27 : Int32)) (dflt := 1085) (lo := 0) (hi := 33) (off := 944) (offs := ic_offs) (len := 151) (tg := 977) hv27 (by decide +kernel) (lc_ask hI hin1 hin2 hin3 hin4 hin5 next)
  by_cases hv28 : v = (28 : Int32)
  · exact iw_tableIn (v := (28 : Int32)) (dflt := 1085) (lo := 0) (hi := 33) (off := 957) (offs := ic_offs) (len := 151) (tg := 990) hv28 (by decide +kernel) (lc_write hI hin1 hin2 hin3 hin4 hin5 next)
  by_cases hv29 : v = (29 : Int32)
  · exact iw_tableIn (v := (29 : Int32)) (dflt := 1085) (lo := 0) (hi := 33) (off := 990) (offs := ic_offs) (len := 151) (tg := 1023) hv29 (by decide +kernel) (lc_tear hI hin1 hin2 hin3 hin4 hin5 next)
  by_cases hv30 : v = (30 : Int32)
  · exact iw_tableIn (v := (30 : Int32)) (dflt := 1085) (lo := 0) (hi := 33) (off := 1003) (offs := ic_offs) (len := 151) (tg := 1036) hv30 (by decide +kernel) (lc_judge hI hin1 hin2 hin3 hin4 hin5 next)
  by_cases hv31 : v = (31 : Int32)
  · exact iw_tableIn (v := (31 : Int32)) (dflt := 1085) (lo := 0) (hi := 33) (off := 1016) (offs := ic_offs) (len := 151) (tg := 1049) hv31 (by decide +kernel) (lc_seed hI hin1 hin2 hin3 hin4 hin5 next)
  by_cases hv32 : v = (32 : Int32)
  · exact iw_tableIn (v := (32 : Int32)) (dflt := 1085) (lo := 0) (hi := 33) (off := 1039) (offs := ic_offs) (len := 151) (tg := 1072) hv32 (by decide +kernel) (lc_keep hI hin1 hin2 hin3 hin4 hin5 next)
  by_cases hv33 : v = (33 : Int32)
  · exact iw_tableIn (v := (33 : Int32)) (dflt := 1085) (lo := 0) (hi := 33) (off := 1062) (offs := ic_offs) (len := 151) (tg := 1095) hv33 (by decide +kernel) (lc_goBack hI hin1 hin2 hin3 hin4 hin5 next)
  exact iw_tableOut (dflt := 1085) (lo := 0) (hi := 33) (offs := ic_offs) (len := 151) (tg := 1118) (ic_out0_33 hv0 hv1 hv2 hv3 hv4 hv5 hv6 hv7 hv8 hv9 hv10 hv11 hv12 hv13 hv14 hv15 hv16 hv17 hv18 hv19 hv20 hv21 hv22 hv23 hv24 hv25 hv26 hv27 hv28 hv29 hv30 hv31 hv32 hv33) (by decide +kernel) (next _ _ hI)
theorem ic_cmp {Ls k : Nat} (hL : Ls ≤ 384) (hk : 6 * k ≤ 390) (h : Ls < 6 * k + 6) : Int32.ofNat Ls - 6 < nI (6 * k) := by
  rw [Int32.lt_iff_toInt_lt]
  have e := pk_sub_toInt (a := Ls) (b := 6) (by omega) (by omega)
  rw [show (Int32.ofNat Ls - 6) = nI Ls - nI 6 from rfl, e, nI_toInt (by omega)]
  omega
theorem ic_ncmp {Ls k : Nat} (hL : Ls ≤ 384) (hk : 6 * k ≤ 390) (h : 6 * k + 6 ≤ Ls) : ¬ (Int32.ofNat Ls - 6 < nI (6 * k)) := by
  rw [Int32.lt_iff_toInt_lt]
  have e := pk_sub_toInt (a := Ls) (b := 6) (by omega) (by omega)
  rw [show (Int32.ofNat Ls - 6) = nI Ls - nI 6 from rfl, e, nI_toInt (by omega)]
  omega
/-! ===== the loop ===== -/
set_option maxRecDepth 100000 in
set_option maxHeartbeats 4000000 in
theorem ic_loop {l : Launch} {κ : ic_K} {b Ls : Nat} {xs : Nat → Int32} (hL : Ls ≤ 384) : ∀ (fu k : Nat) (sw : Nat) (μ : ic_M), 6 * k ≤ 390 → Ls + 1 ≤ 6 * k + 6 * fu → ic_I sw μ → ic_W l κ ic_law (ic_XL κ b Ls xs) ic_ZL 18 [(0, .ref b), (1, ic_rv κ.1 1), (2, ic_rv κ.1 90), (3, .int (nI (6 * k)))] [] 106 (ic_rs sw) μ 106 2181 := by
  intro fu
  induction fu with
  | zero =>
    intro k sw μ hk hfu hI
    -- the script is read: the head leaves
    refine iw_iload_n (i := 3) (pc' := 19) 3 rfl (by decide +kernel) ?_
    refine iw_aloadb (i := 0) (pc' := 20) 0 rfl (by decide +kernel) ?_
    refine iw_slen (pc' := 21) (by decide +kernel) ?_
    refine iw_bipush (i := 6) (v := (6 : Int32)) (pc' := 23) (by decide +kernel) ?_
    refine iw_isub (pc' := 24) (by decide +kernel) ?_
    refine iw_icmp_gt (T := some ()) (F := none) (R := ()) (off := 1100) (tg := 1124) (pc' := 27) (by rw [if_pos (ic_cmp hL hk (by omega))]) (by decide +kernel) (fun _ => ?_) (fun h => by cases h)
    refine iw_iconst (i := 1) (v := (1 : Int32)) (pc' := 1125) (by decide +kernel) ?_
    exact iw_lret (by decide +kernel) (by decide)
  | succ fu ih =>
    intro k sw μ hk hfu hI
    refine iw_iload_n (i := 3) (pc' := 19) 3 rfl (by decide +kernel) ?_
    refine iw_aloadb (i := 0) (pc' := 20) 0 rfl (by decide +kernel) ?_
    refine iw_slen (pc' := 21) (by decide +kernel) ?_
    refine iw_bipush (i := 6) (v := (6 : Int32)) (pc' := 23) (by decide +kernel) ?_
    refine iw_isub (pc' := 24) (by decide +kernel) ?_
    by_cases hlt : Ls < 6 * k + 6
    · refine iw_icmp_gt (T := some ()) (F := none) (R := ()) (off := 1100) (tg := 1124) (pc' := 27) (by rw [if_pos (ic_cmp hL hk hlt)]) (by decide +kernel) (fun _ => ?_) (fun h => by cases h)
      refine iw_iconst (i := 1) (v := (1 : Int32)) (pc' := 1125) (by decide +kernel) ?_
      exact iw_lret (by decide +kernel) (by decide)
    · refine iw_icmp_gt (T := none) (F := some ()) (R := ()) (off := 1100) (tg := 1124) (pc' := 27) (by rw [if_neg (ic_ncmp hL hk (by omega))]) (by decide +kernel) (fun h => by cases h) (fun _ => ?_)
      have h0 : vp_in (nI (6 * k)) Ls := vp_in_nI (by omega) (by omega)
      have hin : ∀ j, j < 6 → vp_in (nI (6 * k) + nI j) Ls := fun j hj => by rw [nI_add]; exact vp_in_nI (by omega) (by omega)
      refine iw_aloadb (i := 0) (pc' := 28) 0 rfl (by decide +kernel) ?_
      refine iw_iload_n (i := 3) (pc' := 29) 3 rfl (by decide +kernel) ?_
      refine iw_sld (pc' := 30) h0 (by decide +kernel) ?_
      refine iw_bipush (i := 63) (v := (63 : Int32)) (pc' := 32) (by decide +kernel) ?_
      refine iw_iand (pc' := 33) (by decide +kernel) ?_
      refine ic_sw hI (hin 1 (by decide)) (hin 2 (by decide)) (hin 3 (by decide)) (hin 4 (by decide)) (hin 5 (by decide)) (fun sw μ hI => ?_)
      refine iw_iinc0 (i := 3) (d := 6) (pc' := 1121) (v := (6 : Int32)) (y := nI (6 * (k + 1))) (L' := [(0, .ref b), (1, ic_rv κ.1 1), (2, ic_rv κ.1 90), (3, .int (nI (6 * (k + 1))))]) 3 rfl ?_ rfl (by decide +kernel) ?_
      · rw [show (6 : Int32) = nI 6 from by decide, nI_add]; rfl
      · refine iw_goto (off := -1103) (pc' := 18) (by decide +kernel) ?_
        exact ih (k + 1) sw μ (by omega) (by omega) hI
def ic_obs (ρ ρ' : ic_R) (a : Nat) : Bool := match ic_sh a with
  | (0, ci) => (List.range (ic_nf ci)).all (fun k => !ic_isr ci k || decide (ρ (a + 1) k = ρ' (a + 1) k))
  | (1, _) => true
  | (2, _) => true
  | (_, N) => (List.range N).all (fun k => decide (ρ (a + 1) k = ρ' (a + 1) k))
theorem ic_w4r : (List.range 106).all (ic_obs ic_w4.2.1 (ic_rs 0)) = true := by decide +kernel
theorem ic_arr_ext {cA : ClassId} {N : Nat} {f g : Nat → Value} (h : ∀ j, j < N → f j = g j) : arrV cA N f = arrV cA N g := by
  unfold arrV
  congr 1
  apply Array.ext
  · simp
  · intro i h1 h2
    simp only [Array.getElem_ofFn]
    exact h i (by simpa using h1)
theorem ic_at_obs {κ : ic_K} {ρ ρ' : ic_R} {μ : ic_M} {a : Nat} {H : Heap} (h : ic_obs ρ ρ' a = true) (hat : va_at κ.2.1 ic_cls (κ.1 + a, ic_en κ ρ μ a) H) (hs : ∃ q, ic_sh a = q ∧ q.1 ≤ 4) : va_at κ.2.1 ic_cls (κ.1 + a, ic_en κ ρ' μ a) H := by
  obtain ⟨⟨t, v⟩, hs, ht⟩ := hs
  match t, ht with
  | 0, _ =>
    have e : ic_en κ ρ' μ a = ic_en κ ρ μ a := by
      rw [ic_en0 hs, ic_en0 hs]
      congr 2
      apply List.map_congr_left
      intro k hk
      simp only [ic_obs, hs] at h
      have h1 := List.all_eq_true.mp h k hk
      unfold ic_fv
      by_cases hr : ic_isr v k = true
      · rw [if_pos hr, if_pos hr]
        rw [hr] at h1
        simp at h1
        rw [h1]
      · rw [if_neg hr, if_neg hr]
    rw [e]; exact hat
  | 1, _ => rw [ic_en1 hs] at hat ⊢; exact hat
  | 2, _ => rw [ic_en2 hs] at hat ⊢; exact hat
  | 3, _ =>
    rw [ic_en3 hs] at hat ⊢
    have hat : H[κ.1 + a]? = some (vp_cell _ _) := hat
    show H[κ.1 + a]? = some (vp_cell _ _)
    rw [hat, vp_cell_q, vp_cell_q]
    congr 1
    refine ic_arr_ext fun j hj => ?_
    simp only [ic_obs, hs] at h
    have h1 := List.all_eq_true.mp h j (List.mem_range.mpr hj)
    simp at h1
    rw [h1]
  | 4, _ =>
    rw [ic_en4 hs] at hat ⊢
    have hat : H[κ.1 + a]? = some (vp_cell _ _) := hat
    show H[κ.1 + a]? = some (vp_cell _ _)
    rw [hat, vp_cell_q, vp_cell_q]
    congr 1
    refine ic_arr_ext fun j hj => ?_
    simp only [ic_obs, hs] at h
    have h1 := List.all_eq_true.mp h j (List.mem_range.mpr hj)
    simp at h1
    rw [h1]
theorem ic_sh_le : ∀ a, a < 106 → (ic_sh a).1 ≤ 4 := by decide +kernel
theorem iw_obs {l : Launch} {κ : ic_K} {M : ic_Md} {X : State → Array Value → Prop} {Z : State → List Frame → Array Value → State → Prop} {pc : Nat} {L : List (Nat × Value)} {S : List Value} {ρ ρ' : ic_R} {μ : ic_M} {c0 s0 : Nat} (h : (List.range 106).all (ic_obs ρ ρ') = true) (k : ic_W l κ M X Z pc L S 106 ρ' μ c0 s0) : ic_W l κ M X Z pc L S 106 ρ μ c0 s0 := by
  intro p e s m args below meth c C0 hX hK hB ls H locs hl hP hS
  refine k p e s m args below meth c C0 hX hK hB ls H locs hl ⟨fun j q hj => ?_, hP.2⟩ hS
  have hjn : j < 106 := by
    have := (List.getElem?_eq_some_iff.mp hj).1
    simpa [ic_wd] using this
  rw [ic_wd_at hjn] at hj
  cases hj
  exact ic_at_obs (List.all_eq_true.mp h j (List.mem_range.mpr hjn)) (hP.1 j _ (ic_wd_at hjn)) ⟨_, rfl, ic_sh_le j hjn⟩
set_option maxRecDepth 100000 in
set_option maxHeartbeats 4000000 in
theorem ic_start {l : Launch} {κ : ic_K} {b Ls : Nat} {xs : Nat → Int32} (hL : Ls ≤ 384) : ic_W l κ ic_law (ic_XL κ b Ls xs) ic_ZL 0 [(0, .ref b)] [] ic_w0.1 ic_w0.2.1 ic_w0.2.2 0 0 := by
  refine iw_new (w := ic_w0) (pc' := 3) (c1 := 1) (s1 := 12) (F := some) (R := ic_w1) (by rw [ic_nw, if_pos (show ic_sh ic_w0.1 = (0, 8) from by decide +kernel)]; rfl) ic_fk8 (i := 7) (ic_in 83 (by decide +kernel)) (ic_in 84 (by decide +kernel)) (ic_in 70 (by decide +kernel)) (by decide +kernel) (by decide +kernel) (fun w' hw => ?_)
  obtain rfl := Option.some.inj hw
  show ic_W l κ ic_law (ic_XL κ b Ls xs) ic_ZL 3 [(0, .ref b)] [ic_rv κ.1 1] ic_w1.1 ic_w1.2.1 ic_w1.2.2 1 12
  refine iw_dup (pc' := 4) (ic_cat _ _) (by decide +kernel) ?_
  refine iw_callI (S1 := []) (w1 := ic_w2) (pc' := 7) (c1 := 89) (s1 := 1183) (ct_X8_init l κ ic_w1 1 ic_w2_ok) ⟨_, rfl⟩ mi_X8_init (i := 9) (ic_in 85 (by decide +kernel)) (ic_sum8 ⟨ic_cat _ _, trivial⟩ (Nat.le_of_ble_eq_true rfl)) (by unfold ic_rm; decide +kernel) ?_
  refine iw_astore_n (i := 1) (pc' := 8) (L' := [(0, .ref b), (1, ic_rv κ.1 1)]) rfl (by decide +kernel) ?_
  refine iw_new (w := ic_w2) (pc' := 11) (c1 := 90) (s1 := 1207) (F := some) (R := ic_w3) (by rw [ic_nw, if_pos (show ic_sh ic_w2.1 = (0, 9) from by decide +kernel)]; rfl) ic_fk9 (i := 10) (ic_in 887 (by decide +kernel)) (ic_in 888 (by decide +kernel)) (ic_in 79 (by decide +kernel)) (by decide +kernel) (by decide +kernel) (fun w' hw => ?_)
  obtain rfl := Option.some.inj hw
  rw [show ic_w2.1 + 1 = 90 from by rw [ic_w2n]]
  refine iw_dup (pc' := 12) (ic_cat _ _) (by decide +kernel) ?_
  refine iw_callI (S1 := []) (w1 := ic_w4) (pc' := 15) (c1 := 106) (s1 := 2181) (ct_X9_init l κ ic_w3 90 ic_w4_ok) ⟨_, rfl⟩ mi_X9_init (i := 12) (ic_in 889 (by decide +kernel)) (ic_sum8 ⟨ic_cat _ _, trivial⟩ (Nat.le_of_ble_eq_true rfl)) (by unfold ic_rm; decide +kernel) ?_
  refine iw_astore_n (i := 2) (pc' := 16) (L' := [(0, .ref b), (1, ic_rv κ.1 1), (2, ic_rv κ.1 90)]) rfl (by decide +kernel) ?_
  refine iw_iconst (i := 0) (v := (0 : Int32)) (pc' := 17) (by decide +kernel) ?_
  refine iw_istore_n0 (i := 3) (pc' := 18) (L' := [(0, .ref b), (1, ic_rv κ.1 1), (2, ic_rv κ.1 90), (3, .int (nI (6 * 0)))]) (by rw [show nI (6 * 0) = 0 from by decide]; rfl) (by decide +kernel) ?_
  rw [ic_w4n]
  refine iw_obs ic_w4r ?_
  exact ic_loop hL 65 0 0 ic_m0 (by omega) (by omega) ic_I0
set_option maxRecDepth 100000 in
set_option maxHeartbeats 4000000 in
/-- THE LAW, from its entry -/
theorem whole_start {p : Program} {e : Env} {s : State} {m : MethodId} {below : List Frame} {meth : Method} {c : Code} (l : Launch) {b L : Nat} {xs : Nat → Int32} (hL : L ≤ 384) (C0 : lw_At p s m meth c b L xs) : W p l e room_1 s m #[Value.ref b] below meth c s.heap [] 0 0 (lw_Z below #[Value.ref b] s) (entryFrame m ([Value.ref b] : List Value).toArray 4) := by
  obtain ⟨hx, hb, hr, hml, hown, hts, hX, hbl, hlocks, hgv, hnm⟩ := C0
  have hts' : ∀ w ∈ ic_tb, w.before #[Value.ref b] s = true := fun w hw => hts w (List.mem_filter.mp hw).1
  have kn : ∀ (ci : Nat) (C : String) (T : u_T) (N : Nat) (ty : Nat → FieldType), ic_FK ci C T N ty → Cond.instantiable C N ∈ ic_tb → ∃ (cC : ClassId) (iS : Nat → Nat), u_Kn s C T N cC iS := fun ci C T N ty fk hi => u_known hts' fk.2.2.1 (hts' _ hi)
  obtain ⟨c0, i0, h0⟩ := kn 0 RX0 TX0 3 tyX0 ic_fk0 (ic_in 204 (by decide +kernel))
  obtain ⟨c1, i1, h1⟩ := kn 1 RX1 TX1 6 tyX1 ic_fk1 (ic_in 118 (by decide +kernel))
  obtain ⟨c2, i2, h2⟩ := kn 2 RX2 TX2 2 tyX2 ic_fk2 (ic_in 222 (by decide +kernel))
  obtain ⟨c3, i3, h3⟩ := kn 3 RX3 TX3 3 tyX3 ic_fk3 (ic_in 148 (by decide +kernel))
  obtain ⟨c4, i4, h4⟩ := kn 4 RX4 TX4 5 tyX4 ic_fk4 (ic_in 92 (by decide +kernel))
  obtain ⟨c5, i5, h5⟩ := kn 5 RX5 TX5 13 tyX5 ic_fk5 (ic_in 238 (by decide +kernel))
  obtain ⟨c6, i6, h6⟩ := kn 6 RX6 TX6 5 tyX6 ic_fk6 (ic_in 180 (by decide +kernel))
  obtain ⟨c7, i7, h7⟩ := kn 7 RX7 TX7 1 tyX7 ic_fk7 (ic_in 168 (by decide +kernel))
  obtain ⟨c8, i8, h8⟩ := kn 8 RX8 TX8 12 tyX8 ic_fk8 (ic_in 84 (by decide +kernel))
  obtain ⟨c9, i9, h9⟩ := kn 9 RX9 TX9 24 tyX9 ic_fk9 (ic_in 888 (by decide +kernel))
  obtain ⟨aI, kI, pI, fI1, fI2, fI3⟩ := Cond.arrayClass_spec (hts' (.arrayClass .int) (ic_in 116 (by decide +kernel)))
  obtain ⟨aZ, kZ, pZ, fZ1, fZ2, fZ3⟩ := Cond.arrayClass_spec (hts' (.arrayClass .boolean) (ic_in 202 (by decide +kernel)))
  obtain ⟨pQ, aQ, kQ, fQ1, fQ2, fQ3, fQ4, fQ5⟩ := Cond.arrayOver_spec (hts' (.arrayOver (.object "IceLaw$Ice")) (ic_in 154 (by decide +kernel)))
  obtain ⟨pM, aM, kM, fM1, fM2, fM3, fM4, fM5⟩ := Cond.arrayOver_spec (hts' (.arrayOver (.object "IceLaw$Image")) (ic_in 221 (by decide +kernel)))
  let κ : ic_K := (s.heap.size, (fun k => match k with | 0 => c0 | 1 => c1 | 2 => c2 | 3 => c3 | 4 => c4 | 5 => c5 | 6 => c6 | 7 => c7 | 8 => c8 | _ => c9, fun k => match k with | 0 => i0 | 1 => i1 | 2 => i2 | 3 => i3 | 4 => i4 | 5 => i5 | 6 => i6 | 7 => i7 | 8 => i8 | _ => i9), fun t => match t with | 0 => aI | 1 => aZ | 2 => aQ | _ => aM)
  have hK : ic_KK κ s := by
    refine ⟨fun k q hq => ?_, fun k q hq => ?_⟩
    · match k, hq with
      | 0, hq => cases hq; exact h0
      | 1, hq => cases hq; exact h1
      | 2, hq => cases hq; exact h2
      | 3, hq => cases hq; exact h3
      | 4, hq => cases hq; exact h4
      | 5, hq => cases hq; exact h5
      | 6, hq => cases hq; exact h6
      | 7, hq => cases hq; exact h7
      | 8, hq => cases hq; exact h8
      | 9, hq => cases hq; exact h9
      | k + 10, hq => simp [ic_cls] at hq
    · match k, hq with
      | 0, hq => cases hq; exact ⟨fun n z => ⟨fun k h => (by cases h), kI, fI2, pI, fI3⟩, fI1⟩
      | 1, hq => cases hq; exact ⟨fun n z => ⟨fun k h => (by cases h), kZ, fZ2, pZ, fZ3⟩, fZ1⟩
      | 2, hq => cases hq; exact ⟨fun n z => ⟨fun k h => (by cases h), kQ, fQ3, pQ, fQ4⟩, kQ, pQ, fQ3, fQ4, fQ1, fQ5⟩
      | 3, hq => cases hq; exact ⟨fun n z => ⟨fun k h => (by cases h), kM, fM3, pM, fM4⟩, kM, pM, fM3, fM4, fM1, fM5⟩
      | k + 4, hq => simp [ic_ty] at hq
  have hl := lv_entry ([.ref b]) (n := 4) (Nat.le_of_ble_eq_true rfl)
  rw [lg_entry_eq]
  generalize (lg_sl ([.ref b]) ++ List.replicate (4 - (lg_sl ([.ref b])).length) Slot.unset).toArray = ls at hl ⊢
  have hl : lv_has ls 4 [(0, .ref b)] := hl
  exact ic_start (κ := κ) (l := l) hL p e s m #[Value.ref b] below meth c ⟨hx, hb, hr, hlocks, hml, hown, hts', hnm⟩ ⟨rfl, hX, hbl, rfl⟩ hK (Nat.le_refl _) ls s.heap [] ⟨hl, fun q hq => by simp at hq; rw [hq]; rfl⟩ ⟨fun k q hk => by simp [ic_wd, ic_w0] at hk, rfl⟩ va_S.rf
set_option maxHeartbeats 4000000 in
theorem lw_walk (l : Launch) (b : Addr) (xs : List Int32) : MetFree l x (headSpec (Jvm.Cond.code x code maxLocals ret :: tables_1) room_1) (lw_P b xs) (fun _ _ _ _ _ => True) lw_Q := by
  refine MetFree.of_bodyS (code := code) (maxLocals := maxLocals) (ret := ret) (by decide) ?_ ?_
  · intro args s m h hn
    obtain ⟨meth, c, h1, h2, h3, h4, h5, h6, -, -⟩ := Cond.code_spec hn (atoms_spec (ws := Jvm.Cond.code x code maxLocals ret :: tables_1) h _ List.mem_cons_self)
    exact ⟨meth, c, h1, h2, h3, h4, h5, h6⟩
  · intro p e s m args below meth c s₁ B hml0 hP _
    obtain ⟨rfl, hx, hbd, hgv⟩ := hP
    obtain ⟨scr, harrAt, hlist, hof, hsmall⟩ := hx
    obtain ⟨hcb, hkn, -, -⟩ := State.arrayAt?_spec harrAt
    have hown : s.vm.findClass R_law = some m.cls := findClass_of_methodNamed B.named
    have hts0 : ∀ c ∈ (Jvm.Cond.code x code maxLocals ret :: tables_1), c.before #[Value.ref b] s = true := atoms_spec (ws := Jvm.Cond.code x code maxLocals ret :: tables_1) B.pre
    have hts : ∀ w ∈ lw_tbl, w.before #[Value.ref b] s = true := k2_hts_sels lw_privs (fun w hw => hts0 w (List.mem_cons_of_mem _ hw)) lw_privs_ok
    have hml : c.maxLocals = 4 := B.maxLocals_eq (hts0 _ List.mem_cons_self)
    have X₀ : Stand p l e room_1 s m #[Value.ref b] below meth c s₁ [] 0 0 := Stand.of_body B
    have hh0 : s₁.heap = s.heap := by rw [B.state]; rfl
    have hsz : scr.slots.size = xs.length := by rw [← Array.length_toList, hlist, List.length_map]
    have hval : ∀ j : Nat, j < xs.length → scr.slots[j]? = some (.int (xs.getD j 0)) := fun j hj => by
      rw [← Array.getElem?_toList, hlist]
      simp [hj]
    have hbl : b < s.heap.size := (Array.getElem?_eq_some_iff.mp hcb).1
    have hX : va_X b xs.length (fun j => xs.getD j 0) s s.heap := ⟨scr, hcb, hof, hkn, hsz, hval⟩
    have K : W p l e room_1 s m #[Value.ref b] below meth c s₁.heap [] 0 0 (lw_Z below #[Value.ref b] s) (entryFrame m ([Value.ref b] : List Value).toArray 4) := by
      rw [hh0]
      exact whole_start l hbd ⟨B.exec, B.bytes, B.returns, hml, hown, hts, hX, hbl, B.notSynchronized, hgv, (name_of_methodNamed B.named B.method).1⟩
    obtain ⟨t, a1, o, b1, b2, b3⟩ := K s₁ rfl X₀
    exact ⟨t, o, a1, b1, b2, b3⟩
theorem lw_pre_spec {args : Array Value} {s : State} (h : (Jvm.Cond.and given_1 narrow_1).before args s = true) (hr : rest_1_c.before args s = true) : ∃ (b : Addr) (xs : List Int32), lw_P b xs args s := by
  have hs := flat_of_before _ h
  have hq := flat_of_before _ hr
  have hc : (Cond.count 1).before args s = true := hs _ (by decide +kernel)
  have harr : (Cond.arrayOf (.arg 0) .int).before args s = true := hs _ (by decide +kernel)
  have hle : (Cond.le (.length (.arg 0)) (.int 384)).before args s = true := hs _ (by decide +kernel)
  have hlen : (Cond.isInt (.length (.arg 0))).before args s = true := hq _ (by decide +kernel)
  have hall : (Cond.all (.arg 0) (.isInt (.elem (.arg 0) (.index 0)))).before args s = true := hq _ (by decide +kernel)
  obtain ⟨b, xs, hb, hx⟩ := State.ints_of_pre rfl harr hlen hall
  have hsm : xs.length < 2 ^ 31 := hx.choose_spec.2.2.2
  have hev : (Term.length (.arg 0)).eval args s none [] s = some (.int xs.length.toInt32) := hx.length_eval hb
  have hv := Cond.le_ints hev (show (Term.int 384).eval args s none [] s = some (.int 384) from rfl)
  have hd : xs.length.toInt32 ≤ 384 := by
    simpa [Cond.before, Cond.holds, hv] using hle
  have hN : xs.length ≤ 384 := (Int32.ofNat_le_ofNat hsm (by decide)).mp (show Int32.ofNat xs.length ≤ Int32.ofNat 384 from hd)
  exact ⟨b, xs, Cond.one_arg hc (show args[0]? = some (.ref b) from hb), hx, hN, h⟩
theorem lw_comes (l : Launch) : Comes l x (Jvm.Cond.code x code maxLocals ret :: tables_1) room_1 (fun tb e args s => Calls_1 tb e args s ∧ rest_1 tb e args s ∧ Pre_1 tb e args s)
    (fun _ _ args s o t => lw_Q args s o t) := by
  intro p e ha hc hk s m args below hf hfit hheap happ hpre
  obtain ⟨b, xs, hP⟩ := lw_pre_spec hpre.2.2 hpre.2.1
  obtain ⟨k, o, h1, h2, h3, hQ⟩ := lw_walk l b xs p e ha hc hk s m args below hf ((Spec.applies_iff_loose hf).mp happ).1 hP trivial
  exact ⟨k, o, h1, h2, h3, hQ⟩
theorem lw_frame {s t : State} {o : Outcome} {args : Array Value} (h : Framed s o t [] 600000 7302250) :
    Framed s o t (fieldLocs frame_1_writes args s ++ arrayLocs frame_1_arrays args s ++ staticLocs frame_1_statics s) 600000 7302250 := h
theorem lw_limb (L : Cond) (hL : ∀ (args : Array Value) (s t : State), L.after args s (.returned (some (.int 1))) t = true) :
    ArmFor flags0 classFile x code maxLocals ret World_1 tables_1 room_1 Calls_1 rest_1 Pre_1
      (fun tb e a s o t => postC L tb e a s o t ∧ Framed s o t (fieldLocs frame_1_writes a s ++ arrayLocs frame_1_arrays a s ++ staticLocs frame_1_statics s) 600000 7302250) := by
  intro l _ _ _ p e ha hc hk s m args below hf hfit hheap happ hpre
  obtain ⟨k, o, h1, h2, h3, rfl, hF⟩ := lw_comes l p e ha hc hk s m args below hf hfit hheap happ hpre
  exact ⟨k, _, h1, h2, h3, hL args s _, lw_frame hF⟩
theorem i_vc : Claimed_1_1 ∧ Claimed_1_2 := ⟨lw_limb limb_1_1 (fun args s t => by simp [limb_1_1, Cond.after, Cond.holds, Cond.value]), lw_limb limb_1_2 (fun args s t => Cond.after_iff.mpr (by
  first | (rw [show limb_1_2 = Cond.eq .result (.int 1) from rfl, Cond.eq_ints (x := 1) (y := 1) rfl rfl]; simp; done) | (simp [limb_1_2, Cond.value, Term.eval]; done)))⟩
