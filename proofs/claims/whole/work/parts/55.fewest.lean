/-! ===== fewest ===== -/
theorem shl_P : ∀ P, P < 7 → (1 : Int32) <<< (nI P &&& 31) = nI (2 ^ P) := by decide +kernel
theorem pow_P {P : Nat} (h : P ≤ 6) : 2 ^ P ≤ 64 := by
  have : 2 ^ P ≤ 2 ^ 6 := Nat.pow_le_pow_right (by omega) h
  omega
def pcI (x : Int32) : Nat := cnt (bt x) 18
theorem pcI_le (x : Int32) : pcI x ≤ 18 := cnt_le _ _
theorem tN_nI {j : Nat} (h : j < 2 ^ 32) : tN (nI j) = j := pk_tn h
theorem c_pc (μ : ic_M) {j : Nat} (h : j < 64) : fJ6_bitCount_0f7a4 μ (nI j) = some (nI (pcI (nI j))) := by
  rw [pop_n μ (by rw [tN_nI (by omega)]; omega)]
  congr 2
  have e : cnt (bt (nI j)) (18 + 6) = cnt (bt (nI j)) 18 + cnt (fun i => bt (nI j) (18 + i)) 6 := cnt_add _ _ _
  rw [cnt_0 (n := 6) (fun i hi => by
    rw [← tN_bt, tN_nI (by omega)]
    exact Nat.testBit_lt_two_pow (Nat.lt_of_lt_of_le h (by
      calc 64 = 2 ^ 6 := rfl
        _ ≤ 2 ^ (18 + i) := Nat.pow_le_pow_right (by omega) (by omega)))), Nat.add_zero] at e
  exact e
theorem m_pc (μ : ic_M) (x : Int32) : fX9_ones μ x = some (nI (pcI x)) := by
  have k := for_M (lp := fun fu i y => lpX9_ones_4 μ x fu y (nI i)) (M := fun i => nI (cnt (bt x) i)) (fin := some (nI (cnt (bt x) 18))) 18 (by omega) (fun fu i hi => by
      rw [lpX9_ones_4, if_neg (show ¬ (18 : Int32) ≤ nI i from nI_ge (b := 18) hi (by omega)), lt_e, lt_e, hs_e (by omega), nI_1]
      show _ = lpX9_ones_4 μ x fu (nI (cnt (bt x) i + cond (bt x i) 1 0)) _
      cases bt x i
      · rw [bI_f, Int32.add_zero]; rfl
      · rw [bI_t, nI_1]; rfl) (fun fu => by
      rw [lpX9_ones_4, if_pos (by decide)])
  have k : lpX9_ones_4 μ x 1000 0 0 = _ := k
  unfold fX9_ones
  rw [k]; rfl
def bkF (q : Nat → Int32) (W H S P : Nat) (s : iceS) (c j : Nat) : Bool := decide (¬ ldS W (W * H) P (fun p => q (2 * p + 1)) (fun p => if bt (nI j) p = true then nI c else sP s p) c ≤ nI S * sI s c)
def fwF (D : Int32) (bk : Nat → Bool) (j : Nat) (best : Int32) : Int32 := if ((best = -1 ∨ pcI (nI j) < pcI best) ∧ nI j &&& D = 0) ∧ bk j = true then nI j else best
theorem fw_form {D : Int32} {bk : Nat → Bool} (i : Nat) : itr (fwF D bk) 0 i (-1) = -1 ∨ ∃ j, j < i ∧ itr (fwF D bk) 0 i (-1) = nI j := by
  have := itr_inv (g := fwF D bk) (I := fun i s => s = -1 ∨ ∃ j, j < i ∧ s = nI j) i 0 (-1) (fun j s _ _ h => by
    unfold fwF
    split
    · exact Or.inr ⟨j, by omega, rfl⟩
    · rcases h with h | ⟨k, hk, h⟩
      · exact Or.inl h
      · exact Or.inr ⟨k, by omega, h⟩) (Or.inl rfl)
  rwa [Nat.zero_add] at this
theorem c_bk {sw : Nat} {m : ic_M} {q : Nat → Int32} {W H S P c j : Nat} {s : iceS} (e : env (ic_ld sw) m q W H S P) (hA : icA m 4 s) (hv : ∀ p, p < P → vP (W * H) (sP s p)) (hc : c < W * H) : ∃ m', fX7_isBrokenBy m (ic_ld sw) 4 (nI c) (nI j) = some (bI (bkF q W H S P s c j), m') ∧ ∀ b, ¬ (58 ≤ b ∧ b ≤ 60) → m' b = m b := by
  obtain ⟨ho, hr, hm, hl, hpp⟩ := id e.1
  have hN := rOK_N ho
  have hP := rOK_P ho
  have hld := ld_hi sw
  obtain ⟨m1, k1, k2, k3⟩ := c_copy (a := 58) (b := 4) (Or.inr (by omega)) hA
  have k := for_M (lp := fun fu i x => lpX7_isBrokenBy_11 (ic_ld sw) (nI c) (nI j) fu (nI i) x) (M := pm m1 60 0 (bt (nI j)) (fun _ => nI c)) (fin := some (pm m1 60 0 (bt (nI j)) (fun _ => nI c) P)) P (by omega) (fun fu i hi => by
      rw [lpX7_isBrokenBy_11, pm_ne (by omega), k3 _ (by omega) (by omega) (by omega), hr.2.2.2.2, if_neg (nI_ge hi (by omega)), isIn_e _ (by omega), bd_some, c_putP (by omega)]
      simp only [lt_e, bd_some, bI_0, nI_1]
      cases hf : bt (nI j) i
      · rw [if_pos rfl, bd_some, pm_f (i := i) hf]
      · rw [if_neg (by simp), bd_some, ← pm_t (i := i) hf, Nat.zero_add]) (fun fu => by
      rw [lpX7_isBrokenBy_11, pm_ne (by omega), k3 _ (by omega) (by omega) (by omega), hr.2.2.2.2, if_pos (by exact nI_le (Nat.le_refl _) (by omega))])
  rw [pm_0] at k
  have k : lpX7_isBrokenBy_11 (ic_ld sw) (nI c) (nI j) 1000 0 m1 = _ := k
  generalize hm2 : pm m1 60 0 (bt (nI j)) (fun _ => nI c) P = m2 at k
  have f2 : ∀ b, ¬ (58 ≤ b ∧ b ≤ 60) → m2 b = m b := fun b hb => by
    rw [← hm2, ← k3 b (by omega) (by omega) (by omega)]; funext x; exact pm_ne (by omega) x
  have pl : ∀ p, p < P → m2 (58 + 2) p = if bt (nI j) p = true then nI c else sP s p := fun p hp => by
    rw [← hm2]
    show pm m1 60 0 (bt (nI j)) (fun _ => nI c) P 60 p = _
    rw [pm_in0 hp, show m1 60 p = sP s p from k2.2.1 p (by omega)]
  have e2 : env (ic_ld sw) m2 q W H S P := env_fr (fun b hb => f2 b (by omega)) e
  have hld2 := c_load (a := 58) e2.1.2.1 (rOK_y ho hc) hP hc (fun p hp => by
    rw [pl p hp]
    split
    · exact Or.inr (Or.inr ⟨c, hc, rfl⟩)
    · exact hv p hp)
  rw [ldS_congr (wt' := fun p => q (2 * p + 1)) (plc' := fun p => if bt (nI j) p = true then nI c else sP s p) (fun p hp => (env_w e2).1 p hp) pl] at hld2
  have hinc : m2 (58 + 1) c = sI s c := by
    rw [← hm2, pm_ne (by omega)]; exact k2.1 c (by omega)
  refine ⟨m2, ?_, f2⟩
  unfold fX7_isBrokenBy bkF
  rw [k1, bd_some, k, bd_some, hld2, bd_some, c_bears e2.1.2.1 (by omega), bd_some, hinc]
  by_cases h : ldS W (W * H) P (fun p => q (2 * p + 1)) (fun p => if bt (nI j) p = true then nI c else sP s p) c ≤ nI S * sI s c
  · rw [if_pos h, bd_some, rz_0]; simp [h, bI]
  · rw [if_neg h, bd_some, rz_1]; simp [h, bI]
theorem m_bk {sw : Nat} {m : ic_M} {q : Nat → Int32} {W H S P c j : Nat} {s : iceS} {y2 : Int32} (e : env (ic_ld sw) m q W H S P) (hA : rwA m 98 s) (hv : ∀ p, p < P → vP (W * H) (sP s p)) (hc : c < W * H) : ∃ m', Option.bind (fX9_tries m) (fun m26 => Option.bind (lpX9_fewest_77 (nI c) y2 (nI j) 1000 (0 : Int32) m26) (fun q33 => Option.bind (fX9_loadOf q33 99 (nI c)) (fun v34 => Option.bind (fX9_bearsOf q33 99 (nI c)) (fun v35 => Option.bind (if v34 ≤ v35 then some y2 else some (nI j)) (fun q36 => some (q36, q33)))))) = some (if bkF q W H S P s c j = true then nI j else y2, m') ∧ ∀ b, b ≠ 99 → m' b = m b := by
  obtain ⟨ho, hr, hm, hl, hpp⟩ := id e.1
  have hN := rOK_N ho
  have hP := rOK_P ho
  obtain ⟨m1, k1, k2, k3⟩ := m_tries hA
  have k := for_M (lp := fun fu i x => lpX9_fewest_77 (nI c) y2 (nI j) fu (nI i) x) (M := pm m1 99 18 (fun _ => true) (fun p => if bt (nI j) p = true then nI c else sP s p)) (fin := some (pm m1 99 18 (fun _ => true) (fun p => if bt (nI j) p = true then nI c else sP s p) P)) P (by omega) (fun fu i hi => by
      rw [lpX9_fewest_77, show ∀ q, ic_ag q 92 7 (3 : Int32) = ic_ag q 92 7 (nI 3) from fun _ => rfl, m_ag92 (by omega), pm_ne (by omega), k3 92 (by omega), hm.2.2.2, if_neg (nI_ge hi (by omega)), has_e _ (by omega), bd_some, show (18 : Int32) + nI i = nI (18 + i) from nI_add 18 i, ag_n (by omega) (by omega), pm_ne (by omega), k3 98 (by omega), hA.2.1 i (by omega)]
      simp only [lt_e, bI_0, nI_1]
      rw [← pm_t (i := i) rfl]
      cases hf : bt (nI j) i
      · rw [if_pos rfl, bd_some, as_n (by omega) (by omega), if_neg (by simp)]
      · rw [if_neg (by simp), bd_some, as_n (by omega) (by omega), if_pos rfl]) (fun fu => by
      rw [lpX9_fewest_77, show ∀ q, ic_ag q 92 7 (3 : Int32) = ic_ag q 92 7 (nI 3) from fun _ => rfl, m_ag92 (by omega), pm_ne (by omega), k3 92 (by omega), hm.2.2.2, if_pos (by exact nI_le (Nat.le_refl _) (by omega))])
  rw [pm_0] at k
  have k : lpX9_fewest_77 (nI c) y2 (nI j) 1000 0 m1 = _ := k
  generalize hm2 : pm m1 99 18 (fun _ => true) (fun p => if bt (nI j) p = true then nI c else sP s p) P = m2 at k
  have f2 : ∀ b, b ≠ 99 → m2 b = m b := fun b hb => by
    rw [← hm2, ← k3 b hb]; funext x; exact pm_ne hb x
  have pl : ∀ p, p < P → m2 99 (18 + p) = if bt (nI j) p = true then nI c else sP s p := fun p hp => by
    rw [← hm2, pm_in hp, if_pos rfl]
  have e2 : env (ic_ld sw) m2 q W H S P := env_fr (fun b hb => f2 b (by omega)) e
  have hld2 := m_load (r := 99) il_m.2.1 e2.1.2.2.1 (rOK_y ho hc) hP hc (fun p hp => by
    rw [pl p hp]
    split
    · exact Or.inr (Or.inr ⟨c, hc, rfl⟩)
    · exact hv p hp)
  rw [ldS_congr (wt' := fun p => q (2 * p + 1)) (plc' := fun p => if bt (nI j) p = true then nI c else sP s p) (fun p hp => by rw [e2.2.1]) pl] at hld2
  have hinc : m2 99 c = sI s c := by
    rw [← hm2, pm_ge (by omega)]; exact k2.1 c (by omega)
  refine ⟨m2, ?_, f2⟩
  unfold bkF
  rw [k1, bd_some, k, bd_some, hld2, bd_some, m_bears il_m.2.1 e2.1.2.2.1 (by omega), bd_some, hinc]
  by_cases h : ldS W (W * H) P (fun p => q (2 * p + 1)) (fun p => if bt (nI j) p = true then nI c else sP s p) c ≤ nI S * sI s c
  · rw [if_pos h, bd_some, if_neg (by simp [h])]
  · rw [if_neg h, bd_some, if_pos (by simp [h])]
theorem pu_fewest {sw : Nat} {μ : ic_M} (hI : ic_I sw μ) (a1 : Int32) : ∃ (v : Int32) (μ1 : ic_M) (μ2 : ic_M), fX8_fewest sw μ a1 = some (v, μ1) ∧ fX9_fewest μ1 a1 = some (v, μ2) ∧ ic_I sw μ2 := by
  obtain ⟨W, H, S, P, h⟩ := id hI
  obtain ⟨ho, hr, hm, hl, -⟩ := h.1
  have hN := rOK_N ho
  have hP := rOK_P ho
  have hld := ld_hi sw
  obtain ⟨s, s1, s2, s3⟩ := iN_to h.2.2.2.2.1
  have E := env_J h
  have hv := s3.2.1
  have h64 := pow_P hP
  unfold fX8_fewest fX9_fewest
  rw [c_isCell hr.2.2.2.1, bd_some]
  by_cases hc : bI (isC (W * H) a1) = 0
  · exact ⟨-1000000001, μ, μ, by rw [if_pos hc], by rw [m_isCell hm ho, bd_some, if_pos hc], hI⟩
  obtain ⟨c, hcN, rfl⟩ := isC_f (by omega) hc
  rw [if_neg hc, c_hole (by omega), bd_some, s1.1 c (by omega)]
  by_cases hz : sI s c = 0
  · exact ⟨-1000000003, μ, μ, by rw [if_neg (by simp [hz, bI])]; rfl, by rw [m_isCell hm ho, bd_some, if_neg hc, ag_n (by omega) (by omega), s2.1 c (by omega), if_pos hz], hI⟩
  rw [if_pos (by simp [hz, bI])]
  generalize hD : bs (fun p => decide (sP s p = -2)) P = D
  generalize hF : fwF D (bkF (μ 94) W H S P s c) = F
  have form : ∀ i, itr F 0 i (-1) = -1 ∨ ∃ j, j < i ∧ itr F 0 i (-1) = nI j := fun i => by rw [← hF]; exact fw_form i
  have cls := for_R (lp := fun fu i (y : Int32 × ic_M) => lpX7_fewestOn_13 (ic_ld sw) 4 (nI c) D fu y.1 (nI i) y.2) (Q := fun y => y.1 = itr F 0 (2 ^ P) (-1) ∧ ∀ b, ¬ (58 ≤ b ∧ b ≤ 60) → y.2 b = μ b) (2 ^ P) (by omega) (fun i y => y.1 = itr F 0 i (-1) ∧ ∀ b, ¬ (58 ≤ b ∧ b ≤ 60) → y.2 b = μ b) (fun fu i y hi hI2 => by
    obtain ⟨i1, i2⟩ := hI2
    have e1 : env (ic_ld sw) y.2 (μ 94) W H S P := env_fr (fun b hb => i2 b (by omega)) E
    have hA : icA y.2 4 s := icA_fr (i2 4 (by omega)) (i2 5 (by omega)) (i2 6 (by omega)) s1
    obtain ⟨m2, j1, j2⟩ := c_bk (j := i) e1 hA hv hcN
    have nxt : itr F 0 (i + 1) (-1) = F i y.1 := by rw [itr_succ, Nat.zero_add, ← i1]
    have efew : Option.bind (if y.1 = (-1 : Int32) then some (1 : Int32) else Option.bind (fJ6_bitCount_0f7a4 y.2 (nI i)) (fun v23 => Option.bind (fJ6_bitCount_0f7a4 y.2 y.1) (fun v24 => (if v24 ≤ v23 then some (0 : Int32) else some (1 : Int32))))) some = some (bI (decide (y.1 = -1 ∨ pcI (nI i) < pcI y.1))) := by
      by_cases h1 : y.1 = -1
      · rw [if_pos h1]; simp [h1, bI, bd_some]
      · rw [if_neg h1]
        rcases form i with h2 | ⟨j, hj, h2⟩
        · exact absurd (i1.trans h2) h1
        · have ey : y.1 = nI j := i1.trans h2
          have b1 := pcI_le (nI i)
          have b2 := pcI_le y.1
          rw [c_pc _ (by omega), bd_some, ey, c_pc _ (by omega), bd_some, ← ey]
          by_cases h3 : pcI (nI i) < pcI y.1
          · rw [if_neg (nI_ge h3 (by omega))]; simp [h3, bI, bd_some]
          · rw [if_pos (nI_le (by omega) (by omega))]; simp [h1, h3, bI, bd_some]
    have e9 : ∀ {α : Type} (X : Option Int32) (G : Int32 → Option α), Option.bind X G = Option.bind (Option.bind X some) G := fun X G => by cases X <;> rfl
    have step : lpX7_fewestOn_13 (ic_ld sw) 4 (nI c) D (fu + 1) y.1 (nI i) y.2 = Option.bind (if bI (decide (y.1 = -1 ∨ pcI (nI i) < pcI y.1)) = 0 then some (y.1, y.2) else (if (nI i &&& D) = 0 then Option.bind (fX7_isBrokenBy y.2 (ic_ld sw) 4 (nI c) (nI i)) (fun q26 => (if q26.1 = 0 then some (y.1, q26.2) else some (nI i, q26.2))) else some (y.1, y.2))) (fun q25 => ic_lt (nI i + (1 : Int32)) (fun x27 => lpX7_fewestOn_13 (ic_ld sw) 4 (nI c) D fu q25.1 x27 q25.2)) := by
      rw [lpX7_fewestOn_13, e1.1.2.1.2.2.2.2, shl_P P (by omega), if_neg (nI_ge hi (by omega)), e9, efew, bd_some]
    have go : ∃ m', lpX7_fewestOn_13 (ic_ld sw) 4 (nI c) D (fu + 1) y.1 (nI i) y.2 = lpX7_fewestOn_13 (ic_ld sw) 4 (nI c) D fu (F i y.1) (nI (i + 1)) m' ∧ ∀ b, ¬ (58 ≤ b ∧ b ≤ 60) → m' b = μ b := by
      rw [step, ← hF]
      unfold fwF
      by_cases h1 : y.1 = -1 ∨ pcI (nI i) < pcI y.1
      · rw [if_neg (by simp [h1, bI])]
        by_cases h2 : nI i &&& D = 0
        · rw [if_pos h2, j1, bd_some]
          refine ⟨m2, ?_, fun b hb => by rw [j2 b hb, i2 b hb]⟩
          dsimp only
          cases h3 : bkF (μ 94) W H S P s c i
          · rw [bI_f, if_pos rfl, bd_some, lt_e, nI_1, if_neg (by simp)]
          · rw [bI_t, if_neg one_ne0, bd_some, lt_e, nI_1, if_pos ⟨⟨h1, h2⟩, rfl⟩]
        · rw [if_neg h2, bd_some, lt_e, nI_1, if_neg (fun h => h2 h.1.2)]
          exact ⟨y.2, rfl, i2⟩
      · rw [if_pos (by simp [h1, bI]), bd_some, lt_e, nI_1, if_neg (fun h => h1 h.1.1)]
        exact ⟨y.2, rfl, i2⟩
    obtain ⟨m', g1, g2⟩ := go
    exact ⟨(F i y.1, m'), g1, nxt.symm, g2⟩) (fun fu y hI2 => ⟨y, by
    rw [lpX7_fewestOn_13, hI2.2 (ic_ld sw) (by omega), hr.2.2.2.2, shl_P P (by omega), if_pos (by exact nI_le (Nat.le_refl _) (by omega))], hI2⟩) (-1, μ) ⟨rfl, fun _ _ => rfl⟩
  obtain ⟨y1, c1, c2, c3⟩ := cls
  have c1 : lpX7_fewestOn_13 (ic_ld sw) 4 (nI c) D 1000 (-1) 0 μ = some y1 := c1
  have mdl := for_R (lp := fun fu i (y : Int32 × ic_M) => lpX9_fewest_27 (nI c) fu y.1 (nI i) y.2) (Q := fun y => y.1 = itr F 0 (2 ^ P) (-1) ∧ ∀ b, b ≠ 99 → y.2 b = y1.2 b) (2 ^ P) (by omega) (fun i y => y.1 = itr F 0 i (-1) ∧ ∀ b, b ≠ 99 → y.2 b = y1.2 b) (fun fu i y hi hI2 => by
    obtain ⟨i1, i2⟩ := hI2
    have f : ∀ b, b ≠ 99 → ¬ (58 ≤ b ∧ b ≤ 60) → y.2 b = μ b := fun b h1 h2 => by rw [i2 b h1, c3 b h2]
    have e1 : env (ic_ld sw) y.2 (μ 94) W H S P := env_fr (fun b hb => f b (by omega) (by omega)) E
    have hA : rwA y.2 98 s := rwA_fr (f 98 (by omega) (by omega)) s2
    obtain ⟨m2, j1, j2⟩ := m_bk (j := i) (y2 := y.1) e1 hA hv hcN
    have nxt : itr F 0 (i + 1) (-1) = F i y.1 := by rw [itr_succ, Nat.zero_add, ← i1]
    have hon : fX9_onCell y.2 98 (-2) = some D := by
      rw [m_on il_m.1 e1.1.2.2.1 ho, ← hD]
      exact congrArg some (bs_congr (fun p hp => by rw [hA.2.1 p (by omega)]))
    have go : ∃ m', lpX9_fewest_27 (nI c) (fu + 1) y.1 (nI i) y.2 = lpX9_fewest_27 (nI c) fu (F i y.1) (nI (i + 1)) m' ∧ ∀ b, b ≠ 99 → m' b = y1.2 b := by
      rw [lpX9_fewest_27, show ∀ T : Int32 → Option (Int32 × ic_M), ic_ag y.2 92 7 (3 : Int32) T = ic_ag y.2 92 7 (nI 3) T from fun _ => rfl, m_ag92 (by omega), e1.1.2.2.1.2.2.2, shl_P P (by omega), if_neg (nI_ge hi (by omega)), hon, bd_some, ← hF]
      unfold fwF
      by_cases h2 : nI i &&& D = 0
      · rw [if_pos h2]
        by_cases h1 : y.1 = -1
        · rw [if_pos h1, j1, bd_some]
          refine ⟨m2, ?_, fun b hb => by rw [j2 b hb, i2 b hb]⟩
          dsimp only
          cases h3 : bkF (μ 94) W H S P s c i
          · rw [lt_e, nI_1, if_neg (by simp), if_neg (by simp)]
          · rw [lt_e, nI_1, if_pos rfl, if_pos ⟨⟨Or.inl h1, h2⟩, rfl⟩]
        · rw [if_neg h1, m_pc, bd_some, m_pc, bd_some]
          have b1 := pcI_le (nI i)
          have b2 := pcI_le y.1
          by_cases h4 : pcI (nI i) < pcI y.1
          · rw [if_neg (nI_ge h4 (by omega)), j1, bd_some]
            refine ⟨m2, ?_, fun b hb => by rw [j2 b hb, i2 b hb]⟩
            dsimp only
            cases h3 : bkF (μ 94) W H S P s c i
            · rw [lt_e, nI_1, if_neg (by simp), if_neg (by simp)]
            · rw [lt_e, nI_1, if_pos rfl, if_pos ⟨⟨Or.inr h4, h2⟩, rfl⟩]
          · rw [if_pos (nI_le (by omega) (by omega)), bd_some, lt_e, nI_1, if_neg (fun h => by
              rcases h.1.1 with h5 | h5
              · exact h1 h5
              · exact h4 h5)]
            exact ⟨y.2, rfl, i2⟩
      · rw [if_neg h2, bd_some, lt_e, nI_1, if_neg (fun h => h2 h.1.2)]
        exact ⟨y.2, rfl, i2⟩
    obtain ⟨m', g1, g2⟩ := go
    exact ⟨(F i y.1, m'), g1, nxt.symm, g2⟩) (fun fu y hI2 => ⟨y, by
    rw [lpX9_fewest_27, show ∀ T : Int32 → Option (Int32 × ic_M), ic_ag y.2 92 7 (3 : Int32) T = ic_ag y.2 92 7 (nI 3) T from fun _ => rfl, m_ag92 (by omega), hI2.2 92 (by omega), c3 92 (by omega), hm.2.2.2, shl_P P (by omega), if_pos (by exact nI_le (Nat.le_refl _) (by omega))], hI2⟩) (-1, y1.2) ⟨rfl, fun _ _ => rfl⟩
  obtain ⟨y2, d1, d2, d3⟩ := mdl
  have d1 : lpX9_fewest_27 (nI c) 1000 (-1) 0 y1.2 = some y2 := d1
  have hdr : fX1_drowned μ 4 (ic_ld sw) = some D := by
    rw [c_drowned hr ho, ← hD]
    exact congrArg some (bs_congr (fun p hp => by rw [s1.2.1 p (by omega)]))
  refine ⟨itr F 0 (2 ^ P) (-1), y1.2, y2.2, ?_, ?_, J_tr hI (fun b h1 h2 h3 h4 h5 => by rw [d3 b h4, c3 b (by omega)])⟩
  · unfold fX7_fewestOn
    rw [hdr, bd_some, c1, bd_some, bd_some, bd_some, ← c2]
  · rw [m_isCell (mR_fr (c3 92 (by omega)) hm) ho, bd_some, if_neg hc, ag_n (by omega) (by omega), c3 98 (by omega), s2.1 c (by omega), if_neg hz, d1, bd_some, ← d2]
