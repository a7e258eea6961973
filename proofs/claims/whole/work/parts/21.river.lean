/-! ===== river(): land and draft change places ===== -/
theorem ic_en_rho {κ : ic_K} {ρ ρ' : ic_R} {μ : ic_M} {a : Nat} (h : ∀ k, ρ (a + 1) k = ρ' (a + 1) k) : ic_en κ ρ μ a = ic_en κ ρ' μ a := by
  have e : ρ (a + 1) = ρ' (a + 1) := funext h
  have e2 : ∀ ci, ic_fv κ ρ μ a ci = ic_fv κ ρ' μ a ci := fun ci => by
    funext j
    simp only [ic_fv, e]
  simp only [ic_en, e, e2]
theorem ic_H_rho {κ : ic_K} {ρ ρ' : ic_R} {μ : ic_M} {n : Nat} {H : Heap} (h : ∀ a, a < n → ∀ k, ρ (a + 1) k = ρ' (a + 1) k) (hP : ic_H κ n ρ μ H) : ic_H κ n ρ' μ H := by
  refine ⟨?_, hP.2⟩
  have e : ic_wd κ n ρ' μ = ic_wd κ n ρ μ := by
    apply List.ext_getElem?
    intro k
    by_cases hk : k < n
    · rw [ic_wd_at hk, ic_wd_at hk, ic_en_rho (h k hk)]
    · rw [List.getElem?_eq_none (by simpa [ic_wd] using hk), List.getElem?_eq_none (by simpa [ic_wd] using hk)]
  rw [e]
  exact hP.1
theorem iw_rho {l : Launch} {κ : ic_K} {M : ic_Md} {X : State → Array Value → Prop} {Z : State → List Frame → Array Value → State → Prop} {pc : Nat} {L : List (Nat × Value)} {S : List Value} {n : Nat} {ρ ρ' : ic_R} {μ : ic_M} {c0 s0 : Nat} (h : ∀ a, a < n → ∀ k, ρ (a + 1) k = ρ' (a + 1) k) (k : ic_W l κ M X Z pc L S n ρ' μ c0 s0) : ic_W l κ M X Z pc L S n ρ μ c0 s0 := by
  intro p e s m args below meth c C0 hX hK hB ls H locs hl hP hS
  exact k p e s m args below meth c C0 hX hK hB ls H locs hl (ic_H_rho h hP) hS
theorem ic_ld1 (sw : Nat) : ic_ld (sw + 1) = ic_dr sw ∧ ic_dr (sw + 1) = ic_ld sw := by
  unfold ic_ld ic_dr
  rcases Nat.mod_two_eq_zero_or_one sw with h | h
  · have h1 : ¬ (sw + 1) % 2 = 0 := by omega
    simp only [h, h1, if_true, if_false, and_self]
  · have h1 : (sw + 1) % 2 = 0 := by omega
    have h2 : ¬ sw % 2 = 0 := by omega
    simp only [h1, h2, if_true, if_false, and_self]
theorem ic_swap (sw : Nat) : ∀ a, a < 106 → ∀ k, ic_ur (ic_ur (ic_rs sw) 1 7 (ic_dr sw)) 1 8 (ic_ld sw) (a + 1) k = ic_rs (sw + 1) (a + 1) k := by
  intro a ha k
  have e8 : ∀ a, a < 106 → ic_sh a = (0, 8) → a = 0 := by decide +kernel
  by_cases h0 : a = 0
  · subst h0
    match k with
    | 0 => rfl
    | 1 => rfl
    | 2 => rfl
    | 3 => rfl
    | 4 => rfl
    | 5 => rfl
    | 6 => rfl
    | 7 => exact (ic_ld1 sw).1.symm
    | 8 => exact (ic_ld1 sw).2.symm
    | k + 9 => simp [ic_ur, ic_rs]
  · have n1 : ¬ a + 1 = 1 := by omega
    have n2 : ic_sh a ≠ (0, 8) := fun h => h0 (e8 a ha h)
    simp only [ic_ur, n1, false_and, if_false]
    have e : a + 1 - 1 = a := rfl
    unfold ic_rs
    simp only [e]
    split
    · rename_i h; exact absurd h n2
    · rfl
    · rfl
    · rfl
    · rfl
def MX8_river : ic_Md := (yX8_river, cX8_river, 3, (some .int), { frames := 6, cells := 0, slots := 0, locals := 132 })
theorem mv_X8_river : ic_MV MX8_river := ⟨ic_in 357 (by decide +kernel), ic_in 358 (by decide +kernel), ic_in 70 (by decide +kernel), ic_in 359 (by decide +kernel), by decide +kernel, by decide +kernel⟩
theorem lkf_X8_65 : Cond.fieldLink RX8 65 RX8 (TX8 8).2.1 (TX8 8).2.2.1 ∈ ic_tb := ic_in 314 (by decide +kernel)
theorem lkf_X8_95 : Cond.fieldLink RX8 95 RX4 (TX4 3).2.1 (TX4 3).2.2.1 ∈ ic_tb := ic_in 102 (by decide +kernel)
theorem lkf_X8_98 : Cond.fieldLink RX8 98 RX4 (TX4 4).2.1 (TX4 4).2.2.1 ∈ ic_tb := ic_in 104 (by decide +kernel)
theorem lkm_X8_99 : Cond.methodLink RX8 99 yX1_begin ∈ ic_tb := ic_in 415 (by decide +kernel)
theorem lkm_X8_91 : Cond.methodLink RX8 91 yX4_readInto ∈ ic_tb := ic_in 360 (by decide +kernel)
def fX8_river (sw : Nat) (μ : ic_M) : Option (Int32 × Nat × ic_M) := Option.bind (fX4_readInto μ (ic_dr sw)) (fun m21 => ic_lt ((m21 2 3)) (fun x22 => Option.bind (if x22 = 0 then some (-1 : Int32) else some (m21 2 4)) (fun q23 => ic_pu m21 1 11 q23 (fun m24 => ic_pu m24 2 2 (0 : Int32) (fun m25 => (if x22 = 0 then Option.bind (fX1_begin m25 4 (ic_ld (sw + 1))) (fun m26 => ic_pu m26 7 2 (0 : Int32) (fun m27 => ic_pu m27 61 4 (0 : Int32) (fun m28 => ic_pu m28 66 2 (0 : Int32) (fun m29 => ic_pu m29 1 9 (0 : Int32) (fun m30 => some ((m30 (ic_ld (sw + 1)) 11), (sw + 1), m30)))))) else some (((-10 : Int32) - x22), sw, m25)))))))
set_option maxRecDepth 100000 in
set_option maxHeartbeats 4000000 in
theorem ct_X8_river (l : Launch) (κ : ic_K) (sw : Nat) (μ : ic_M) {R : Int32 × Nat × ic_M} (hf : fX8_river sw μ = some R) : ic_C l κ MX8_river [ic_rv κ.1 1] 106 (ic_rs sw) μ (some (.int R.1)) 106 (ic_rs R.2.1) R.2.2 := by
  refine ic_C.of (L := [(0, ic_rv κ.1 1)]) ⟨ic_cat _ _, trivial⟩ ⟨by decide +kernel, Nat.le_of_ble_eq_true rfl⟩ rfl ?_
  unfold fX8_river at hf
  refine iw_aload_n (i := 0) (pc' := 1) 0 rfl (by decide +kernel) ?_
  refine iw_getr (pc' := 4) (q := 2) ic_fk8 cO_1 rfl lkf_X8_10 (by decide +kernel) ?_
  refine iw_aload_n (i := 0) (pc' := 5) 0 rfl (by decide +kernel) ?_
  refine iw_getr (pc' := 8) (q := (ic_dr sw)) ic_fk8 cO_1 rfl lkf_X8_65 (by decide +kernel) ?_
  obtain ⟨m21, hc, hf⟩ := ic_bd hf
  refine iw_callV (pc' := 11) (S0 := []) (S1 := []) (c1 := 0) (s1 := 0) (k := 1) (ct_X4_readInto l κ sw μ (ic_dr sw) (ic_drO sw) hc) cO_2 ⟨rfl, rfl⟩ mv_X4_readInto lkm_X8_91 ⟨rfl, rfl⟩ (ic_sum8 trivial (Nat.le_of_ble_eq_true rfl)) (by unfold ic_rm; decide +kernel) ⟨rfl, rfl, rfl⟩ ⟨Nat.le_of_ble_eq_true rfl, Nat.le_of_ble_eq_true rfl⟩ ?_
  refine iw_aload_n (i := 0) (pc' := 12) 0 rfl (by decide +kernel) ?_
  refine iw_getr (pc' := 15) (q := 2) ic_fk8 cO_1 rfl lkf_X8_10 (by decide +kernel) ?_
  refine iw_geti (pc' := 18) ic_fk4 cO_2 lkf_X8_95 (by decide +kernel) ?_
  refine iw_istore_n (i := 1) (pc' := 19) (L1 := fun x22 => [(0, ic_rv κ.1 1), (1, .int x22)]) hf (fun _ => rfl) (by decide +kernel) (fun x22 hf => ?_)
  refine iw_aload_n (i := 0) (pc' := 20) 0 rfl (by decide +kernel) ?_
  refine iw_iload_n (i := 1) (pc' := 21) 1 rfl (by decide +kernel) ?_
  obtain ⟨q23, hf, hgq23⟩ := ic_bd hf
  have hjq23 : ic_W l κ MX8_river ic_X0 (ic_Z κ MX8_river (some (.int R.1)) 106 (ic_rs R.2.1) R.2.2) 35 [(0, ic_rv κ.1 1), (1, .int x22)] [.int q23, ic_rv κ.1 1] 106 (ic_rs sw) m21 0 0 := by
    have hf := hgq23
    refine iw_put (pc' := 38) hf ic_fk8 cO_1 lkf_X8_75 (by decide +kernel) (fun m24 hf => ?_)
    refine iw_aload_n (i := 0) (pc' := 39) 0 rfl (by decide +kernel) ?_
    refine iw_getr (pc' := 42) (q := 2) ic_fk8 cO_1 rfl lkf_X8_10 (by decide +kernel) ?_
    refine iw_iconst (i := 0) (v := (0 : Int32)) (pc' := 43) (by decide +kernel) ?_
    refine iw_put (pc' := 46) hf ic_fk4 cO_2 lkf_X8_87 (by decide +kernel) (fun m25 hf => ?_)
    refine iw_iload_n (i := 1) (pc' := 47) 1 rfl (by decide +kernel) ?_
    refine iw_if_eq (off := 8) (tg := 55) (pc' := 50) hf (by decide +kernel) (fun hf => ?_) (fun hf => ?_)
    · refine iw_aload_n (i := 0) (pc' := 56) 0 rfl (by decide +kernel) ?_
      refine iw_getr (pc' := 59) (q := (ic_ld sw)) ic_fk8 cO_1 rfl lkf_X8_61 (by decide +kernel) ?_
      refine iw_astore_n (i := 2) (pc' := 60) (L' := [(0, ic_rv κ.1 1), (1, .int x22), (2, ic_rv κ.1 (ic_ld sw))]) rfl (by decide +kernel) ?_
      refine iw_aload_n (i := 0) (pc' := 61) 0 rfl (by decide +kernel) ?_
      refine iw_aload_n (i := 0) (pc' := 62) 0 rfl (by decide +kernel) ?_
      refine iw_getr (pc' := 65) (q := (ic_dr sw)) ic_fk8 cO_1 rfl lkf_X8_65 (by decide +kernel) ?_
      refine iw_putr (pc' := 68) (q := (ic_dr sw)) ic_fk8 cO_1 lkf_X8_61 ic_fitO (by decide +kernel) ?_
      refine iw_aload_n (i := 0) (pc' := 69) 0 rfl (by decide +kernel) ?_
      refine iw_aload_n (i := 2) (pc' := 70) 2 rfl (by decide +kernel) ?_
      refine iw_putr (pc' := 73) (q := (ic_ld sw)) ic_fk8 cO_1 lkf_X8_65 ic_fitO (by decide +kernel) ?_
      refine iw_rho (ic_swap sw) ?_
      refine iw_aload_n (i := 0) (pc' := 74) 0 rfl (by decide +kernel) ?_
      refine iw_getr (pc' := 77) (q := 4) ic_fk8 cO_1 rfl lkf_X8_19 (by decide +kernel) ?_
      refine iw_aload_n (i := 0) (pc' := 78) 0 rfl (by decide +kernel) ?_
      refine iw_getr (pc' := 81) (q := (ic_ld (sw + 1))) ic_fk8 cO_1 rfl lkf_X8_61 (by decide +kernel) ?_
      obtain ⟨m26, hc, hf⟩ := ic_bd hf
      refine iw_callV (pc' := 84) (S0 := []) (S1 := []) (c1 := 0) (s1 := 0) (k := 1) (ct_X1_begin l κ (sw + 1) m25 4 cO_4 (ic_ld (sw + 1)) (ic_ldO (sw + 1)) hc) cO_4 ⟨rfl, rfl⟩ mv_X1_begin lkm_X8_99 ⟨rfl, rfl⟩ (ic_sum8 trivial (Nat.le_of_ble_eq_true rfl)) (by unfold ic_rm; decide +kernel) ⟨rfl, rfl, rfl⟩ ⟨Nat.le_of_ble_eq_true rfl, Nat.le_of_ble_eq_true rfl⟩ ?_
      refine iw_aload_n (i := 0) (pc' := 85) 0 rfl (by decide +kernel) ?_
      refine iw_getr (pc' := 88) (q := 7) ic_fk8 cO_1 rfl lkf_X8_26 (by decide +kernel) ?_
      refine iw_iconst (i := 0) (v := (0 : Int32)) (pc' := 89) (by decide +kernel) ?_
      refine iw_put (pc' := 92) hf ic_fk3 cO_7 lkf_X8_102 (by decide +kernel) (fun m27 hf => ?_)
      refine iw_aload_n (i := 0) (pc' := 93) 0 rfl (by decide +kernel) ?_
      refine iw_getr (pc' := 96) (q := 61) ic_fk8 cO_1 rfl lkf_X8_40 (by decide +kernel) ?_
      refine iw_iconst (i := 0) (v := (0 : Int32)) (pc' := 97) (by decide +kernel) ?_
      refine iw_put (pc' := 100) hf ic_fk6 cO_61 lkf_X8_105 (by decide +kernel) (fun m28 hf => ?_)
      refine iw_aload_n (i := 0) (pc' := 101) 0 rfl (by decide +kernel) ?_
      refine iw_getr (pc' := 104) (q := 66) ic_fk8 cO_1 rfl lkf_X8_47 (by decide +kernel) ?_
      refine iw_iconst (i := 0) (v := (0 : Int32)) (pc' := 105) (by decide +kernel) ?_
      refine iw_put (pc' := 108) hf ic_fk0 cO_66 lkf_X8_106 (by decide +kernel) (fun m29 hf => ?_)
      refine iw_aload_n (i := 0) (pc' := 109) 0 rfl (by decide +kernel) ?_
      refine iw_iconst (i := 0) (v := (0 : Int32)) (pc' := 110) (by decide +kernel) ?_
      refine iw_put (pc' := 113) hf ic_fk8 cO_1 lkf_X8_68 (by decide +kernel) (fun m30 hf => ?_)
      refine iw_aload_n (i := 0) (pc' := 114) 0 rfl (by decide +kernel) ?_
      refine iw_getr (pc' := 117) (q := (ic_ld (sw + 1))) ic_fk8 cO_1 rfl lkf_X8_61 (by decide +kernel) ?_
      refine iw_geti (pc' := 120) ic_fk5 (ic_ldO (sw + 1)) lkf_X8_107 (by decide +kernel) ?_
      exact iw_ireturn (ic_q1 (Option.some.inj hf)) (congrArg ic_rs (ic_q1 (ic_q2 (Option.some.inj hf)))) (ic_q2 (ic_q2 (Option.some.inj hf))) (by decide +kernel)
    · refine iw_bipush (i := (-10)) (v := (-10 : Int32)) (pc' := 52) (by decide +kernel) ?_
      refine iw_iload_n (i := 1) (pc' := 53) 1 rfl (by decide +kernel) ?_
      refine iw_isub (pc' := 54) (by decide +kernel) ?_
      exact iw_ireturn (ic_q1 (Option.some.inj hf)) (congrArg ic_rs (ic_q1 (ic_q2 (Option.some.inj hf)))) (ic_q2 (ic_q2 (Option.some.inj hf))) (by decide +kernel)
  refine iw_if_ne (off := 7) (tg := 28) (pc' := 24) hf (by decide +kernel) (fun hf => ?_) (fun hf => ?_)
  · refine iw_aload_n (i := 0) (pc' := 29) 0 rfl (by decide +kernel) ?_
    refine iw_getr (pc' := 32) (q := 2) ic_fk8 cO_1 rfl lkf_X8_10 (by decide +kernel) ?_
    refine iw_geti (pc' := 35) ic_fk4 cO_2 lkf_X8_98 (by decide +kernel) ?_
    obtain rfl := Option.some.inj hf
    exact iw_sub [0, 1] rfl hjq23
  · refine iw_iconst (i := (-1)) (v := (-1 : Int32)) (pc' := 25) (by decide +kernel) ?_
    refine iw_goto (off := 10) (pc' := 35) (by decide +kernel) ?_
    obtain rfl := Option.some.inj hf
    exact iw_sub [0, 1] rfl hjq23
