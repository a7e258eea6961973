/-! ===== river: the call ===== -/
theorem dr_or (sw : Nat) : (ic_ld sw = 78 ∧ ic_dr sw = 84) ∨ (ic_ld sw = 84 ∧ ic_dr sw = 78) := by
  unfold ic_ld ic_dr
  by_cases h : sw % 2 = 0
  · rw [if_pos h, if_pos h]; exact Or.inl ⟨rfl, rfl⟩
  · rw [if_neg h, if_neg h]; exact Or.inr ⟨rfl, rfl⟩
theorem pu_river {sw : Nat} {μ : ic_M} (hI : ic_I sw μ) : ∃ (v : Int32) (sw1 : Nat) (μ1 μ2 : ic_M), fX8_river sw μ = some (v, sw1, μ1) ∧ fX9_river μ1 = some (v, μ2) ∧ ic_I sw1 μ2 := by
  obtain ⟨W0, H0, S0, P0, h⟩ := id hI
  obtain ⟨hiR, hiT, h11, hiS, hiN, hiP, hiK, hiW, hiB⟩ := h
  obtain ⟨n, hn, t1, t2, t3⟩ := id hiT
  have hor := dr_or sw
  have hld1 := (ic_ld1 sw).1
  have hR : ic_dr sw = 78 ∨ ic_dr sw = 84 := by omega
  generalize hRe : ic_dr sw = R at hR hor hld1
  have hR8 : 78 ≤ R := by omega
  have hR9 : R + 5 ≤ 89 := by omega
  have tt : ∀ j, j < n → μ 91 j = nI (μ 91 j).toNatClampNeg ∧ (μ 91 j).toNatClampNeg ≤ 255 := fun j hj => by
    obtain ⟨-, x, x1, x2⟩ := t3 j hj
    rw [x2, nI_clamp (by omega)]
    exact ⟨rfl, x1⟩
  have hT : cT μ (fun j => (μ 91 j).toNatClampNeg) n := ⟨hn, t1, fun j hj => ⟨by rw [(t3 j hj).1]; exact (tt j hj).1, (tt j hj).2⟩⟩
  have hT' : ∀ m : ic_M, m 90 1 = μ 90 1 → m 91 = μ 91 → mT m (fun j => (μ 91 j).toNatClampNeg) n := fun m e1 e2 => ⟨hn, by rw [e1, t2], fun j hj => by rw [e2]; exact tt j hj⟩
  generalize (fun j => (μ 91 j).toNatClampNeg) = t at hT hT'
  obtain ⟨mc, c1, c2, c3, c4, c5⟩ := c_start hR8 hT
  -- both readers, the reference's from any memory that has the text
  have both : ∀ m : ic_M, m 90 1 = μ 90 1 → m 91 = μ 91 → ∃ m' m1 m1', (∀ {α : Type} (G : ic_M → Option α), Option.bind (lpX9_river_12 1000 0 (ic_up (ic_up m 90 21 0) 90 22 0)) (fun q27 => Option.bind (fX9_skips q27) G) = G m') ∧ lpX4_readInto_21 R 1000 0 mc = some (.inl m1) ∧ lpX9_reads_0 1000 m' = some m1' ∧ fin2 R m1 m1' n ∧ cH R mc m1 ∧ mH m m1' := fun m e1 e2 => by
    obtain ⟨m', s1, s2, s3, s4, s5⟩ := m_start (hT' m e1 e2)
    obtain ⟨m1, m1', p1, p2, p3, p4, p5⟩ := prs hR n 0 1000 1000 mc m' (0, 0) (by omega) (by omega) (by omega) c2 s2 c3 s3 (fun _ => ⟨Nat.le_refl _, 0, 0, 0, 0, DR_0 c4 s4⟩)
    exact ⟨m', m1, m1', s1, p1, p2, p3, p4, mH_tr s5 p5⟩
  obtain ⟨-, m1, d1', -, g1, -, g3, g4, -⟩ := both μ rfl rfl
  have again : ∀ m : ic_M, m 90 1 = μ 90 1 → m 91 = μ 91 → ∃ m' m1', (∀ {α : Type} (G : ic_M → Option α), Option.bind (lpX9_river_12 1000 0 (ic_up (ic_up m 90 21 0) 90 22 0)) (fun q27 => Option.bind (fX9_skips q27) G) = G m') ∧ lpX9_reads_0 1000 m' = some m1' ∧ fin2 R m1 m1' n ∧ mH m m1' := fun m e1 e2 => by
    obtain ⟨m', x1, m1', s1, p1, p2, p3, p4, p5⟩ := both m e1 e2
    have : x1 = m1 := by
      rw [g1] at p1
      exact (Sum.inl.inj (Option.some.inj p1)).symm
    subst this
    exact ⟨m', m1', s1, p2, p3, p5⟩
  have hrd : fX4_readInto μ R = some m1 := by rw [c1, g1, bd_some]; rfl
  -- what the class's reader has left as it was
  have F1 : ∀ b, b ≠ 2 → ¬ (R ≤ b ∧ b ≤ R + 5) → m1 b = μ b := fun b e1 e2 => by rw [g4.1 b e1 e2, c5 b e1 (by omega)]
  obtain ⟨f, a, f3, f23, fm, fbad, fgood⟩ := g3
  by_cases hf : f = 0
  · -- a river is told
    obtain ⟨W, H, S, P, D⟩ := fgood hf
    obtain ⟨o1, o2, o3, o4, o5, o6, o7⟩ := id D
    have hN := rOK_N o1
    have hP6 := rOK_P o1
    obtain ⟨il1, il2, il3⟩ := il_R hR
    have thick : ∀ c, c < W * H → ∃ x, fX5_thickAt m1 R (nI c) = some x := fun c hc => by
      obtain ⟨x, hx⟩ := LR_at (k := c) (d := 10) il1 (by omega) (by omega) (by omega) (by omega) o4
      have hx : fX5_listed m1 (R + 1) (m1 R 5) (nI c) 10 = some x := hx
      exact ⟨x, by unfold fX5_thickAt; rw [hx, bd_some]⟩
    have thv : ∀ c, c < W * H → fX5_thickAt m1 R (nI c) = some ((fX5_thickAt m1 R (nI c)).getD 0) := fun c hc => by
      obtain ⟨x, hx⟩ := thick c hc
      rw [hx]; rfl
    have e25R : ∀ k, R ≤ k → k ≤ R + 5 → ic_up (ic_up m1 1 11 (-1)) 2 2 0 k = m1 k := fun k k1 k2 => by rw [ic_up_ne (by omega), ic_up_ne (by omega)]
    obtain ⟨m26, b1, b2, b3, b4, b5, b6, b7, b8⟩ := c_begin (m := ic_up (ic_up m1 1 11 (-1)) 2 2 0) (N := W * H) (v := fun c => (fX5_thickAt m1 R (nI c)).getD 0) hR8 (by rw [e25R R (by omega) (by omega)]; exact o2.2.2.2.1) hN (fun c hc => by
      rw [th_fr (e25R R (by omega) (by omega)) (e25R (R + 1) (by omega) (by omega))]; exact thv c hc)
    have cls : fX8_river sw μ = some (nI (W * H), sw + 1, ic_up (ic_up (ic_up (ic_up m26 7 2 0) 61 4 0) 66 2 0) 1 9 0) := by
      unfold fX8_river
      rw [hRe, hrd, bd_some, lt_e, f23, hf, if_pos (by rfl), bd_some, pu_e, pu_e, if_pos (by rfl), hld1, b1, bd_some, pu_e, pu_e, pu_e, pu_e, ic_up_ne (by omega), ic_up_ne (by omega), ic_up_ne (by omega), ic_up_ne (by omega), b8 R (by omega), e25R R (by omega) (by omega), o2.2.2.2.1]
    generalize hμ1 : ic_up (ic_up (ic_up (ic_up m26 7 2 0) 61 4 0) 66 2 0) 1 9 0 = μ1 at cls
    -- what that memory holds
    have A : ∀ b, b ≠ 1 → b ≠ 2 → ¬ (4 ≤ b ∧ b ≤ 7) → b ≠ 61 → b ≠ 66 → μ1 b = m1 b := fun b e1 e2 e3 e4 e5 => by
      rw [← hμ1, ic_up_ne e1, ic_up_ne e5, ic_up_ne e4, ic_up_ne (by omega), b8 b (by omega), ic_up_ne e2, ic_up_ne e1]
    have A1 : ∀ k, ¬ k = 9 → ¬ k = 11 → μ1 1 k = μ 1 k := fun k e1 e2 => by
      rw [← hμ1, ic_up_eq, pk_un e1, ic_up_ne (by omega), ic_up_ne (by omega), ic_up_ne (by omega), b8 1 (by omega), ic_up_ne (by omega), ic_up_eq, pk_un e2, F1 1 (by omega) (by omega)]
    have A9 : μ1 1 9 = 0 := by rw [← hμ1, ic_up_eq, pk_us]
    have A11 : μ1 1 11 = -1 := by rw [← hμ1, ic_up_eq, pk_un (by omega), ic_up_ne (by omega), ic_up_ne (by omega), ic_up_ne (by omega), b8 1 (by omega), ic_up_ne (by omega), ic_up_eq, pk_us]
    have A22 : μ1 2 2 = 0 := by rw [← hμ1, ic_up_ne (by omega), ic_up_ne (by omega), ic_up_ne (by omega), ic_up_ne (by omega), b8 2 (by omega), ic_up_eq, pk_us]
    have A4 : ∀ b, 4 ≤ b → b ≤ 6 → μ1 b = m26 b := fun b e1 e2 => by rw [← hμ1, ic_up_ne (by omega), ic_up_ne (by omega), ic_up_ne (by omega), ic_up_ne (by omega)]
    have A72 : μ1 7 2 = 0 := by rw [← hμ1, ic_up_ne (by omega), ic_up_ne (by omega), ic_up_ne (by omega), ic_up_eq, pk_us]
    have A71 : μ1 7 1 = μ 7 1 := by rw [← hμ1, ic_up_ne (by omega), ic_up_ne (by omega), ic_up_ne (by omega), ic_up_eq, pk_un (by omega), b8 7 (by omega), ic_up_ne (by omega), ic_up_ne (by omega), F1 7 (by omega) (by omega)]
    have A61 : μ1 61 4 = 0 := by rw [← hμ1, ic_up_ne (by omega), ic_up_ne (by omega), ic_up_eq, pk_us]
    have A66 : μ1 66 2 = 0 := by rw [← hμ1, ic_up_ne (by omega), ic_up_eq, pk_us]
    have B90 : μ1 90 = μ 90 := by rw [A 90 (by omega) (by omega) (by omega) (by omega) (by omega), F1 90 (by omega) (by omega)]
    have B91 : μ1 91 = μ 91 := by rw [A 91 (by omega) (by omega) (by omega) (by omega) (by omega), F1 91 (by omega) (by omega)]
    obtain ⟨m', m1', q1, q2, q3, q4⟩ := again μ1 (by rw [B90]) B91
    obtain ⟨f', a', f3', f23', fm', -, fgood'⟩ := q3
    have hf' : f' = 0 := by
      have := (nI_eq (a := f) (b := f') (by omega) (by omega)).mp (f23.symm.trans f23')
      omega
    obtain ⟨W', H', S', P', D'⟩ := fgood' hf'
    obtain ⟨r1, r2, r3, r4, r5, r6, r7⟩ := id D'
    have hW6 : W ≤ 6 := by rcases o1 with h | h <;> omega
    have hW6' : W' ≤ 6 := by rcases r1 with h | h <;> omega
    have hH6 : H ≤ 6 := by rcases o1 with h | h <;> omega
    have hH6' : H' ≤ 6 := by rcases r1 with h | h <;> omega
    have eW : W' = W := (nI_eq (by omega) (by omega)).mp (r2.1.symm.trans o2.1)
    have eH : H' = H := (nI_eq (by omega) (by omega)).mp (r2.2.1.symm.trans o2.2.1)
    obtain ⟨k4, k4a, k4b, k4c, k4d⟩ := id r4
    obtain ⟨μ2, n4, u1, u2, u3, u4, u5, u6, u7, u8, u9, u10, u11, u12, u13, u14⟩ := (m_river (a := 0) q1 q2 f3' fm').2 hf' W' H' S' P' k4 r1 r3 ⟨k4c, k4a⟩
    rw [eW, eH] at u1
    refine ⟨nI (W * H), sw + 1, μ1, μ2, cls, u1, W', H', S', P', ?_⟩
    rw [hld1]
    -- the reference leaves the class's cells alone
    have C : ∀ b, b ≠ 90 → ¬ (92 ≤ b ∧ b ≤ 98) → b ≠ 103 → μ2 b = μ1 b := fun b e1 e2 e3 => by rw [u14 b e1 e2 e3, q4.1 b e1 (by omega) (by omega) (by omega)]
    have C90 : ∀ k, k ≠ 12 → k ≠ 18 → k ≠ 20 → k ≠ 1 → k ≠ 2 → k ≠ 21 → k ≠ 22 → μ2 90 k = μ 90 k := fun k e1 e2 e3 e4 e5 e6 e7 => by rw [u13 k e1 e2 e3 e4 e5, q4.2 k e6 e7, B90]
    have CR : ∀ b, R ≤ b → b ≤ R + 5 → μ2 b = m1 b := fun b e1 e2 => by rw [C b (by omega) (by omega) (by omega), A b (by omega) (by omega) (by omega) (by omega) (by omega)]
    have hP6' := rOK_P r1
    have hN' := rOK_N r1
    have setlb : ∀ x, setl (setl (setl m1' 4) 5) 6 95 4 = setl m1' 4 95 4 ∧ (x < 18 → setl (setl (setl m1' 4) 5) 6 96 (0 + x) = setl m1' 4 96 (0 + x)) := fun x => ⟨by rw [setl_95 (by omega), setl_95 (by omega)], fun hx => by rw [setl_96 (by unfold so; simp; omega), setl_96 (by unfold so; simp; omega)]⟩
    have L4 : 0 < W' → lsOK (m1 R 5) (m1 (R + 1)) (μ2 92 4) (fun j => μ2 93 (0 + j)) 18 40 10 := fun hW => by
      have base := setl_ok (m := m1') (k := 4) (o := 0) (B := 18) (V := 40) rfl (by omega) (by decide) (by omega) r4
      refine lsOK_fr rfl rfl ?_ (fun j hj => ?_) base
      · rw [(u3 hW).1 4 (by omega) (by omega), (setlb 0).1]
      · rw [(u3 hW).2.1 (0 + j) (by omega), (setlb j).2 hj]
    have LRs4 : ∀ {cn : Int32} {cl : Nat → Int32} {k o B V : Nat}, k ≠ 4 → 1 ≤ o → LR cn cl (m1' 95 k) (fun j => m1' 96 (o + j)) B V → LR cn cl (setl m1' 4 95 k) (fun j => setl m1' 4 96 (o + j)) B V := fun e1 e2 hl => LR_fr rfl rfl (setl_95 e1) (fun j _ => setl_96 (by unfold so; simp; omega)) hl
    have L5 : 0 < W' → lsOK (m1 R 6) (m1 (R + 2)) (μ2 92 5) (fun j => μ2 93 (18 + j)) 6 9 0 := fun hW => by
      have base := setl_ok (m := setl m1' 4) (k := 5) (o := 18) (B := 6) (V := 9) rfl (by omega) (by decide) (by omega) (LRs4 (by omega) (by omega) r5)
      refine lsOK_fr rfl rfl ?_ (fun j hj => ?_) base
      · rw [(u3 hW).1 5 (by omega) (by omega), setl_95 (by omega)]
      · rw [(u3 hW).2.1 (18 + j) (by omega), setl_96 (by unfold so; simp; omega)]
    have L6 : 0 < W' → lsOK (m1 R 7) (m1 (R + 3)) (μ2 92 6) (fun j => μ2 93 (24 + j)) 12 20 10 := fun hW => by
      have base := setl_ok (m := setl (setl m1' 4) 5) (k := 6) (o := 24) (B := 12) (V := 20) rfl (by omega) (by decide) (by omega) (LR_fr rfl rfl (setl_95 (by omega)) (fun j _ => setl_96 (by unfold so; simp; omega)) (LRs4 (by omega) (by omega) r6))
      refine lsOK_fr rfl rfl ?_ (fun j hj => ?_) base
      · rw [(u3 hW).1 6 (by omega) (by omega)]
      · rw [(u3 hW).2.1 (24 + j) (by omega)]
    -- the ice
    have inch : ∀ c, c < 18 → μ2 5 c = μ2 98 c ∧ ∃ v, v ≤ 60 ∧ μ2 98 c = nI v := fun c hc => by
      rw [C 5 (by omega) (by omega) (by omega), A4 5 (by omega) (by omega), b2 c hc, u5 c (by omega), if_neg (show ¬ c = 25 by omega), eW, eH]
      by_cases h : c < W * H
      · have hW : 0 < W' := by
          rcases r1 with r | r
          · omega
          · exfalso
            have : W = 0 := by omega
            rw [this, Nat.zero_mul] at h
            omega
        obtain ⟨nn, n1, n2, n3, n5, v, n6, n7⟩ := c_listed (k := c) (L4 hW) il1 (by omega) (by omega)
        have en : nn = n4 := (nI_eq (by omega) (by have := (u3 hW).2.2.2.2; omega)).mp (n3.symm.trans (u3 hW).2.2.1)
        have n5 : fX5_listed m1 (R + 1) (m1 R 5) (nI c) 10 = _ := n5
        rw [if_pos h, if_pos h]
        rw [Nat.zero_add] at n5 n7
        refine ⟨?_, v, by omega, by rw [← en]; exact n7⟩
        unfold fX5_thickAt
        rw [n5, bd_some, ← en]; rfl
      · rw [if_neg h, if_neg h, if_neg (show ¬ (18 ≤ c ∧ c ≤ 23) by omega)]
        exact ⟨rfl, 0, by omega, rfl⟩
    have plc : ∀ p, p < 6 → μ2 6 p = -1 ∧ μ2 98 (18 + p) = -1 := fun p hp => by
      rw [C 6 (by omega) (by omega) (by omega), A4 6 (by omega) (by omega), b3 p hp, u5 (18 + p) (by omega), if_neg (by omega), if_neg (by omega), if_pos (by omega)]
      exact ⟨rfl, rfl⟩
    have o98 : μ2 98 24 = 0 ∧ μ2 98 25 = -1 ∧ μ2 98 26 = 0 ∧ μ2 98 27 = 0 := by
      rw [u5 24 (by omega), u5 25 (by omega), u5 26 (by omega), u5 27 (by omega), if_neg (by omega), if_neg (by omega), if_neg (by omega), if_pos rfl, if_neg (by omega), if_neg (by omega), if_neg (by omega), if_neg (by omega), if_neg (by omega), if_neg (by omega)]
      exact ⟨rfl, rfl, rfl, rfl⟩
    have o4' : μ2 4 = m26 4 := by rw [C 4 (by omega) (by omega) (by omega), A4 4 (by omega) (by omega)]
    refine ⟨⟨r1, ?_, u2, fun hW => ⟨?_, ?_⟩, fun p hp => ?_⟩, ⟨0, by omega, ?_, u11, fun j hj => absurd hj (by omega)⟩, ?_, ?_, ⟨⟨fun c hc => ?_, fun p hp => ?_, ?_, ?_, ?_, ?_⟩, ⟨fun c hc => ?_, fun p hp => ?_, fun p hp c hc e => ?_, ⟨0, by omega, ?_⟩, fun _ p _ hp => ?_⟩⟩, ?_, ⟨false, false, ?_, u6, u7, fun h => absurd h (by simp), fun h => absurd h (by simp)⟩, ⟨0, by omega, ?_, u9, fun j hj => absurd hj (by omega)⟩, ⟨0, by omega, ?_, u10, fun j hj => absurd hj (by omega)⟩⟩
    · unfold cR at r2 ⊢; rw [CR R (by omega) (by omega)]; exact r2
    · rw [CR R (by omega) (by omega), CR (R + 2) (by omega) (by omega)]; exact L5 hW
    · rw [CR R (by omega) (by omega), CR (R + 3) (by omega) (by omega)]; exact L6 hW
    · rw [CR (R + 4) (by omega) (by omega), CR (R + 5) (by omega) (by omega), u4 (2 * p) (by omega), u4 (2 * p + 1) (by omega)]
      exact r7 p hp
    · rw [C 2 (by omega) (by omega) (by omega), A22]; rfl
    · rw [C 1 (by omega) (by omega) (by omega), A11, u12]
    · refine iS_fr ?_ ?_ hiS
      · rw [C 1 (by omega) (by omega) (by omega), A1 10 (by omega) (by omega)]
      · exact C90 16 (by omega) (by omega) (by omega) (by omega) (by omega) (by omega) (by omega)
    · rw [Nat.zero_add]; exact (inch c hc).1
    · have e := plc p hp
      rw [Nat.zero_add]
      exact e.1.trans e.2.symm
    · rw [o4', b4]; exact o98.1.symm
    · rw [o4', b6]; exact o98.2.1.symm
    · rw [o4', b5]; exact o98.2.2.1.symm
    · rw [o4', b7]; exact o98.2.2.2.symm
    · rw [Nat.zero_add]; exact (inch c hc).2
    · rw [Nat.zero_add, (plc p (by omega)).2]; exact Or.inr (Or.inl rfl)
    · rw [Nat.zero_add, (plc p (by omega)).2] at e
      exact absurd e.symm (m1_ne (by omega))
    · exact o98.2.2.1
    · rw [Nat.zero_add, (plc p hp).2]
    · obtain ⟨np, nx, v1, v2, v3, v4, v5, v6⟩ := hiP
      exact ⟨0, nx, by omega, v2, by rw [C 7 (by omega) (by omega) (by omega), A72]; rfl, by rw [C 7 (by omega) (by omega) (by omega), A71, v4], u8, fun j hj => absurd hj (by omega)⟩
    · rw [C 1 (by omega) (by omega) (by omega), A9]; rfl
    · rw [C 61 (by omega) (by omega) (by omega), A61]; rfl
    · rw [C 66 (by omega) (by omega) (by omega), A66]; rfl
  · -- something is wrong: all stays
    obtain ⟨fa, -⟩ := fbad hf
    have cls : fX8_river sw μ = some (-10 - nI f, sw, ic_up (ic_up m1 1 11 (nI a)) 2 2 0) := by
      have hz : ¬ nI f = 0 := nI_ne0 (by omega) (by omega)
      unfold fX8_river
      rw [hRe, hrd, bd_some, lt_e, f23, if_neg hz, bd_some, pu_e, pu_e, if_neg hz, fa]
    generalize hμ1 : ic_up (ic_up m1 1 11 (nI a)) 2 2 0 = μ1 at cls
    have A : ∀ b, b ≠ 1 → b ≠ 2 → ¬ (R ≤ b ∧ b ≤ R + 5) → μ1 b = μ b := fun b e1 e2 e3 => by rw [← hμ1, ic_up_ne e2, ic_up_ne e1, F1 b e2 e3]
    have A1 : ∀ k, ¬ k = 11 → μ1 1 k = μ 1 k := fun k e => by rw [← hμ1, ic_up_ne (by omega), ic_up_eq, pk_un e, F1 1 (by omega) (by omega)]
    have A11 : μ1 1 11 = nI a := by rw [← hμ1, ic_up_ne (by omega), ic_up_eq, pk_us]
    have A22 : μ1 2 2 = 0 := by rw [← hμ1, ic_up_eq, pk_us]
    have B90 : μ1 90 = μ 90 := A 90 (by omega) (by omega) (by omega)
    obtain ⟨m', m1', q1, q2, q3, q4⟩ := again μ1 (by rw [B90]) (A 91 (by omega) (by omega) (by omega))
    obtain ⟨f', a', f3', f23', fm', fbad', -⟩ := q3
    have hf' : f' = f := (nI_eq (by omega) (by omega)).mp (f23'.symm.trans f23)
    subst hf'
    obtain ⟨fa', fa2⟩ := fbad' hf
    have ea : nI a' = nI a := fa'.symm.trans fa
    rw [ea] at fa2
    have ref := (m_river q1 q2 f3' fm').1 hf fa2
    refine ⟨_, sw, μ1, _, cls, ref, W0, H0, S0, P0, ?_⟩
    have C : ∀ b, b ≠ 90 → ¬ (95 ≤ b ∧ b ≤ 97) → ic_up (ic_up m1' 90 1 0) 90 2 (nI a) b = μ1 b := fun b e1 e2 => by rw [ic_up_ne e1, ic_up_ne e1, q4.1 b e1 (by omega) (by omega) (by omega)]
    have C90 : ∀ k, k ≠ 1 → k ≠ 2 → k ≠ 21 → k ≠ 22 → ic_up (ic_up m1' 90 1 0) 90 2 (nI a) 90 k = μ 90 k := fun k e1 e2 e3 e4 => by rw [ic_up_eq, pk_un e2, ic_up_eq, pk_un e1, q4.2 k e3 e4, B90]
    have K : ∀ b, b ≠ 1 → b ≠ 2 → b ≠ 90 → ¬ (R ≤ b ∧ b ≤ R + 5) → ¬ (95 ≤ b ∧ b ≤ 97) → ic_up (ic_up m1' 90 1 0) 90 2 (nI a) b = μ b := fun b e1 e2 e3 e4 e5 => by rw [C b e3 e5, A b e1 e2 e4]
    have K1 : ∀ k, ¬ k = 11 → ic_up (ic_up m1' 90 1 0) 90 2 (nI a) 1 k = μ 1 k := fun k e => by rw [C 1 (by omega) (by omega), A1 k e]
    refine ⟨iR_fr (fun b hb => K b (by omega) (by omega) (by omega) (by omega) (by omega)) hiR, ⟨0, by omega, ?_, ?_, fun j hj => absurd hj (by omega)⟩, ?_, iS_fr (K1 10 (by omega)) (C90 16 (by omega) (by omega) (by omega) (by omega)) hiS, iN_fr (K 4 (by omega) (by omega) (by omega) (by omega) (by omega)) (K 5 (by omega) (by omega) (by omega) (by omega) (by omega)) (K 6 (by omega) (by omega) (by omega) (by omega) (by omega)) (K 98 (by omega) (by omega) (by omega) (by omega) (by omega)) hiN, iP_fr (by rw [K 7 (by omega) (by omega) (by omega) (by omega) (by omega)]) (by rw [K 7 (by omega) (by omega) (by omega) (by omega) (by omega)]) (C90 12 (by omega) (by omega) (by omega) (by omega)) (fun b h1 h2 => K b (by omega) (by omega) (by omega) (by omega) (by omega)) (K 100 (by omega) (by omega) (by omega) (by omega) (by omega)) hiP, iK_fr (K1 9 (by omega)) (fun b h1 h2 => K b (by omega) (by omega) (by omega) (by omega) (by omega)) (K 101 (by omega) (by omega) (by omega) (by omega) (by omega)) (K 102 (by omega) (by omega) (by omega) (by omega) (by omega)) (K 103 (by omega) (by omega) (by omega) (by omega) (by omega)) hiK, iW_fr (by rw [K 61 (by omega) (by omega) (by omega) (by omega) (by omega)]) (C90 18 (by omega) (by omega) (by omega) (by omega)) (K 62 (by omega) (by omega) (by omega) (by omega) (by omega)) (K 63 (by omega) (by omega) (by omega) (by omega) (by omega)) (K 104 (by omega) (by omega) (by omega) (by omega) (by omega)) hiW, iB_fr (by rw [K 66 (by omega) (by omega) (by omega) (by omega) (by omega)]) (C90 20 (by omega) (by omega) (by omega) (by omega)) (K 67 (by omega) (by omega) (by omega) (by omega) (by omega)) (K 68 (by omega) (by omega) (by omega) (by omega) (by omega)) (K 105 (by omega) (by omega) (by omega) (by omega) (by omega)) hiB⟩
    · rw [C 2 (by omega) (by omega), A22]; rfl
    · rw [ic_up_eq, pk_un (by omega), ic_up_eq, pk_us]; rfl
    · rw [C 1 (by omega) (by omega), A11, ic_up_eq, pk_us]
