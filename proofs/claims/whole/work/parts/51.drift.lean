/-! ===== draws ===== -/
def nxN (sd : Nat) : Nat := (((Int32.toInt64 (nI sd)) * (1103515245 : Int64) + (12345 : Int64)) &&& (2147483647 : Int64)).toBitVec.toNat
theorem nx_lt (sd : Nat) : nxN sd < 2 ^ 31 := by
  unfold nxN
  rw [Int64.toBitVec_and, BitVec.toNat_and, show (2147483647 : Int64).toBitVec.toNat = 2 ^ 31 - 1 from by decide, Nat.and_two_pow_sub_one_eq_mod]
  exact Nat.mod_lt _ (by decide)
theorem nx_e (sd : Nat) : Int64.toInt32 (((Int32.toInt64 (nI sd)) * (1103515245 : Int64) + (12345 : Int64)) &&& (2147483647 : Int64)) = nI (nxN sd) := by
  have h : (((Int32.toInt64 (nI sd)) * (1103515245 : Int64) + (12345 : Int64)) &&& (2147483647 : Int64)) = lN (nxN sd) := by
    apply Int64.toBitVec_inj.mp
    apply BitVec.eq_of_toNat_eq
    have e : (lN (nxN sd)).toBitVec = BitVec.ofNat 64 (nxN sd) := Int64.toBitVec_ofNat
    rw [e, BitVec.toNat_ofNat, Nat.mod_eq_of_lt (by have := nx_lt sd; omega)]
    rfl
  rw [h, lN_i]
def drV (sd n : Nat) : Nat := nxN sd / 65536 % n
theorem c_draw {sw : Nat} {m : ic_M} {sd n : Nat} (h : m 1 10 = nI sd) (hn : 1 ≤ n) (hn2 : n ≤ 18) : fX8_draw sw m (nI n) = some (nI (drV sd n), ic_up m 1 10 (nI (nxN sd))) := by
  have hl := nx_lt sd
  unfold fX8_draw drV
  rw [pu_e, h, nx_e, ic_up_eq, pk_us, if_pos (show (1 : Int32) ≤ nI n from nI_le (a := 1) hn (by omega)), if_neg (by decide), if_neg (nI_ne0 (by omega) (by omega)), show (65536 : Int32) = nI 65536 from rfl, pk_div hl (by omega) (by omega), pk_rem (by omega) (by omega) (by omega)]
  rfl
theorem m_draw {m : ic_M} {sd n : Nat} (h : m 90 16 = nI sd) (hn : 1 ≤ n) (hn2 : n ≤ 18) : fX9_draw m (nI n) = some (nI (drV sd n), ic_up m 90 16 (nI (nxN sd))) := by
  have hl := nx_lt sd
  unfold fX9_draw drV
  rw [pu_e, h, nx_e, ic_up_eq, pk_us, if_neg (by decide), if_neg (nI_ne0 (by omega) (by omega)), show (65536 : Int32) = nI 65536 from rfl, pk_div hl (by omega) (by omega), pk_rem (by omega) (by omega) (by omega)]
/-! ===== a deed with draws ===== -/
theorem deedD {sw : Nat} {μ : ic_M} {W H S P : Nat} {G : Prop} (h : ic_J (ic_ld sw) μ W H S P) {A B : ic_M → Option (Int32 × ic_M)} (hdo : ∀ s sd, sd < 2 ^ 31 → icA μ 4 s → rwA μ 98 s → gS s (W * H) P → ∃ (s' : iceS) (v : Int32) (sd' : Nat), sd' < 2 ^ 31 ∧ gS s' (W * H) P ∧ (∀ m, env (ic_ld sw) m (μ 94) W H S P → m 92 = μ 92 → m 93 = μ 93 → icA m 4 s → m 1 10 = nI sd → ∃ m', A m = some (v, m') ∧ icA m' 4 s' ∧ m' 1 10 = nI sd' ∧ (∀ k, k ≠ 10 → m' 1 k = m 1 k) ∧ ∀ b, b ≠ 1 → ¬ (4 ≤ b ∧ b ≤ 6) → m' b = m b) ∧ ∀ m, env (ic_ld sw) m (μ 94) W H S P → m 92 = μ 92 → m 93 = μ 93 → rwA m 98 s → m 90 16 = nI sd → ∃ m', B m = some (v, m') ∧ rwA m' 98 s' ∧ m' 90 16 = nI sd' ∧ (∀ k, k ≠ 16 → m' 90 k = m 90 k) ∧ ∀ b, b ≠ 98 → b ≠ 90 → m' b = m b)
    (k : ∀ (v : Int32) (μ1 μ2 : ic_M), Option.bind (fX3_remember μ 4) A = some (v, μ1) → Option.bind (fX9_notes μ1) B = some (v, μ2) → (∀ b, b ≠ 1 → b ≠ 7 → ¬ (9 ≤ b ∧ b ≤ 56) → ¬ (4 ≤ b ∧ b ≤ 6) → μ1 b = μ b) → ic_I sw μ2 → G) : G := by
  have hP := rOK_P h.1.1
  have hN := rOK_N h.1.1
  obtain ⟨s, s1, s2, s3⟩ := iN_to h.2.2.2.2.1
  obtain ⟨r1, sd, hsd, r2⟩ := h.2.2.2.1
  obtain ⟨s', v, sd', hsd', g', dA, dB⟩ := hdo s sd hsd s1 s2 s3
  obtain ⟨μa, a1, a2, a3⟩ := rec_push h
  obtain ⟨μb, b1, b2, b4, b5, b3⟩ := dA μa (env_fr (fun b hb => a2 b (by omega) (by omega)) (env_J h)) (a2 92 (by omega) (by omega)) (a2 93 (by omega) (by omega)) (icA_fr (a2 4 (by omega) (by omega)) (a2 5 (by omega) (by omega)) (a2 6 (by omega) (by omega)) s1) (by rw [a2 1 (by omega) (by omega), r1, r2])
  obtain ⟨μc, c1, c2, c3, c4⟩ := a3 μb (fun b hb => b3 b (by omega) (by omega)) (by rw [b3 90 (by omega) (by omega)])
  have fc : ∀ b, b ≠ 1 → b ≠ 7 → ¬ (9 ≤ b ∧ b ≤ 56) → ¬ (4 ≤ b ∧ b ≤ 6) → b ≠ 90 → b ≠ 100 → μc b = μ b := fun b h0 h1 h2 h3 h4 h5 => by
    rw [c2 b h4 h5, b3 b h0 h3, a2 b h1 h2]
  have c90 : ∀ k, k ≠ 12 → μc 90 k = μ 90 k := fun k hk => by rw [c3 k hk, b3 90 (by omega) (by omega), a2 90 (by omega) (by omega)]
  obtain ⟨μd, d1, d2, d4, d5, d3⟩ := dB μc (env_fr (fun b hb => fc b (by omega) (by omega) (by omega) (by omega) (by omega) (by omega)) (env_J h)) (fc 92 (by omega) (by omega) (by omega) (by omega) (by omega) (by omega)) (fc 93 (by omega) (by omega) (by omega) (by omega) (by omega) (by omega)) (rwA_fr (fc 98 (by omega) (by omega) (by omega) (by omega) (by omega) (by omega)) s2) (by rw [c90 16 (by omega), r2])
  refine k v μb μd (by rw [a1]; exact b1) (by rw [c1]; exact d1) (fun b h0 h1 h2 h3 => by rw [b3 b h0 h3, a2 b h1 h2]) ⟨W, H, S, P, ?_⟩
  have f90 : ∀ k, k ≠ 12 → k ≠ 16 → μd 90 k = μ 90 k := fun k hk hk2 => by
    rw [d5 k hk2, c90 k hk]
  have fa : ∀ b, b ≠ 1 → b ≠ 7 → ¬ (9 ≤ b ∧ b ≤ 56) → ¬ (4 ≤ b ∧ b ≤ 6) → b ≠ 90 → b ≠ 98 → b ≠ 100 → μd b = μ b := fun b h0 h1 h2 h3 h4 h5 h6 => by rw [d3 b h5 h4, fc b h0 h1 h2 h3 h4 h6]
  have fbd : ∀ b, b ≠ 90 → b ≠ 98 → b ≠ 100 → μd b = μb b := fun b h4 h5 h6 => by rw [d3 b h5 h4, c2 b h4 h6]
  refine J_fr h (fun b h1 h2 h3 h4 h5 h6 h7 => fa b h1 (by omega) (by omega) (by omega) h5 (by omega) (by omega)) (fun k hk => by rw [fbd 1 (by omega) (by omega) (by omega), b5 k hk, a2 1 (by omega) (by omega)]) f90 ⟨by rw [fbd 1 (by omega) (by omega) (by omega), b4, d4], sd', hsd', d4⟩ (iN_of hP hN (icA_fr ?_ ?_ ?_ b2) d2 g') (c4 μd (fun b hb => d3 b (by omega) (by omega)) (d5 12 (by omega)))
  · exact fbd 4 (by omega) (by omega) (by omega)
  · exact fbd _ (by omega) (by omega) (by omega)
  · exact fbd _ (by omega) (by omega) (by omega)
/-! ===== drift ===== -/
def wanA (q : Nat → Int32) (W H S P : Nat) (x : iceS × Nat) : iceS × Nat := if P = 0 then x else (if goS W (W * H) (colN W (q (2 * drV x.2 P))) (sP x.1 (drV x.2 P)) (sI x.1) (drV (nxN x.2) (W * H)) = true then goR q W H S P x.1 (drV x.2 P) (nI (drV (nxN x.2) (W * H))) else x.1, nxN (nxN x.2))
def snwS (s : iceS) (c : Nat) : iceS := (sI s, sP s, sSn s ||| (1 : Int32) <<< (nI c &&& 31), sNi s, sOw s, sBr s)
def wanB (N : Nat) (x : iceS × Nat) : iceS × Nat := if drV x.2 4 = 0 then (snwS x.1 (drV (nxN x.2) N), nxN (nxN x.2)) else (x.1, nxN x.2)
def pas2 (μ0 : ic_M) (q : Nat → Int32) (W H S P : Nat) (y : iceS × Nat) : iceS × Nat := (pasS μ0 q W H S P y.1, y.2)
def dayS (μ0 : ic_M) (q : Nat → Int32) (W H S P : Nat) (x : iceS × Nat) : iceS × Nat := pas2 μ0 q W H S P (wanB (W * H) (wanA q W H S P x))
theorem pas2_1 (μ0 : ic_M) (q : Nat → Int32) (W H S P : Nat) (y : iceS × Nat) : (pas2 μ0 q W H S P y).1 = pasS μ0 q W H S P y.1 := rfl
theorem pas2_2 (μ0 : ic_M) (q : Nat → Int32) (W H S P : Nat) (y : iceS × Nat) : (pas2 μ0 q W H S P y).2 = y.2 := rfl
theorem day_e (μ0 : ic_M) (q : Nat → Int32) (W H S P : Nat) (x : iceS × Nat) : dayS μ0 q W H S P x = pas2 μ0 q W H S P (wanB (W * H) (wanA q W H S P x)) := rfl
section DRI
variable {sw : Nat} {m μ0 : ic_M} {q : Nat → Int32} {W H S P k : Nat} {x : iceS × Nat}
theorem wanA_g (hP : P ≤ 6) (hN : W * H ≤ 18) (h0 : 0 < W * H) (g : gS x.1 (W * H) P) (hsd : x.2 < 2 ^ 31) : gS (wanA q W H S P x).1 (W * H) P ∧ sNi (wanA q W H S P x).1 = sNi x.1 ∧ (wanA q W H S P x).2 < 2 ^ 31 := by
  unfold wanA
  by_cases hp0 : P = 0
  · rw [if_pos hp0]; exact ⟨g, rfl, hsd⟩
  · rw [if_neg hp0]
    have hp : drV x.2 P < P := Nat.mod_lt _ (by omega)
    have hc : drV (nxN x.2) (W * H) < W * H := Nat.mod_lt _ (by omega)
    refine ⟨?_, ?_, nx_lt _⟩
    · dsimp only
      split
      · rename_i hg
        exact gS_clm (gS_brk hP hN (gS_put g hp (Or.inr ⟨_, hc, rfl, goS_t hg⟩) hN))
      · exact g
    · dsimp only
      split <;> rfl
theorem wanB_g {N : Nat} (g : gS x.1 N P) : gS (wanB N x).1 N P ∧ sNi (wanB N x).1 = sNi x.1 ∧ (wanB N x).2 < 2 ^ 31 := by
  unfold wanB
  by_cases h : drV x.2 4 = 0
  · rw [if_pos h]; exact ⟨g, rfl, nx_lt _⟩
  · rw [if_neg h]; exact ⟨g, rfl, nx_lt _⟩
theorem day_g (hP : P ≤ 6) (hN : W * H ≤ 18) (h0 : 0 < W * H) (g : gS x.1 (W * H) P) (hsd : x.2 < 2 ^ 31) (hk : sNi x.1 = nI k) (hk2 : k < 9060) : gS (dayS μ0 q W H S P x).1 (W * H) P ∧ sNi (dayS μ0 q W H S P x).1 = nI (k + 1) ∧ (dayS μ0 q W H S P x).2 < 2 ^ 31 := by
  obtain ⟨a1, a2, a3⟩ := wanA_g (q := q) (S := S) hP hN h0 g hsd
  obtain ⟨b1, b2, b3⟩ := wanB_g a1
  rw [day_e]
  generalize wanA q W H S P x = y at a2 b1 b2 b3 ⊢
  generalize wanB (W * H) y = z at b1 b2 b3 ⊢
  rw [pas2_1, pas2_2]
  obtain ⟨c1, c2⟩ := gS_pas (μ0 := μ0) (q := q) (S := S) hP hN b1 (by rw [b2, a2]; exact hk) hk2
  exact ⟨c1, c2, b3⟩
theorem c_wander (e : env (ic_ld sw) m q W H S P) (h0 : 0 < W * H) (hA : icA m 4 x.1) (hs : m 1 10 = nI x.2) (g : gS x.1 (W * H) P) : ∃ m', fX8_wander sw m = some m' ∧ icA m' 4 (wanB (W * H) (wanA q W H S P x)).1 ∧ m' 1 10 = nI (wanB (W * H) (wanA q W H S P x)).2 ∧ (∀ k, k ≠ 10 → m' 1 k = m 1 k) ∧ ∀ b, b ≠ 1 → ¬ (4 ≤ b ∧ b ≤ 6) → m' b = m b := by
  obtain ⟨ho, hr, hm, hl, hpp⟩ := id e.1
  have hP := rOK_P ho
  have hN := rOK_N ho
  have hld := ld_hi sw
  have pA : ∃ m1, (if (m (ic_ld sw) 12) ≤ 0 then some m else Option.bind (fX8_draw sw m (m (ic_ld sw) 12)) (fun q22 => Option.bind (fX8_draw sw q22.2 (q22.2 (ic_ld sw) 11)) (fun q23 => Option.bind (fX1_canGo q23.2 4 (ic_ld sw) q22.1 q23.1) (fun v24 => (if v24 = 0 then some q23.2 else Option.bind (fX1_go q23.2 4 (ic_ld sw) q22.1 q23.1) (fun q25 => some q25.2)))))) = some m1 ∧ icA m1 4 (wanA q W H S P x).1 ∧ m1 1 10 = nI (wanA q W H S P x).2 ∧ (∀ k, k ≠ 10 → m1 1 k = m 1 k) ∧ ∀ b, b ≠ 1 → ¬ (4 ≤ b ∧ b ≤ 6) → m1 b = m b := by
    unfold wanA
    rw [hr.2.2.2.2]
    by_cases hp0 : P = 0
    · rw [if_pos hp0, hp0, if_pos (by decide)]
      exact ⟨m, rfl, hA, hs, fun _ _ => rfl, fun _ _ _ => rfl⟩
    · have hp : drV x.2 P < P := Nat.mod_lt _ (by omega)
      have hc : drV (nxN x.2) (W * H) < W * H := Nat.mod_lt _ (by omega)
      rw [if_neg hp0, if_neg (nI_nle (by omega) (by omega)), c_draw hs (by omega) (by omega), bd_some]
      dsimp only
      rw [ic_up_ne (by omega), hr.2.2.2.1, c_draw (sd := nxN x.2) (by rw [ic_up_eq, pk_us]) (by omega) (by omega), bd_some]
      dsimp only
      generalize hm2 : ic_up (ic_up m 1 10 (nI (nxN x.2))) 1 10 (nI (nxN (nxN x.2))) = m2
      have f2 : ∀ b, b ≠ 1 → m2 b = m b := fun b hb => by rw [← hm2, ic_up_ne hb, ic_up_ne hb]
      have f21 : ∀ k, k ≠ 10 → m2 1 k = m 1 k := fun k hk => by rw [← hm2, ic_up_eq, pk_un hk, ic_up_eq, pk_un hk]
      have s2 : m2 1 10 = nI (nxN (nxN x.2)) := by rw [← hm2, ic_up_eq, pk_us]
      have e2 : env (ic_ld sw) m2 q W H S P := env_fr (fun b hb => f2 b (by omega)) e
      have hA2 : icA m2 4 x.1 := icA_fr (f2 4 (by omega)) (f2 5 (by omega)) (f2 6 (by omega)) hA
      rw [c_canC e2 hA2 hp (g.2.1 _ hp) hc, bd_some]
      cases hg : goS W (W * H) (colN W (q (2 * drV x.2 P))) (sP x.1 (drV x.2 P)) (sI x.1) (drV (nxN x.2) (W * H))
      · refine ⟨m2, by rw [bI_f, if_pos rfl], ?_, s2, f21, fun b h1 _ => f2 b h1⟩
        rw [if_neg (by simp)]; exact hA2
      · obtain ⟨m3, j1, j2, j3⟩ := c_go e2 hA2 (by omega) hp (x := nI (drV (nxN x.2) (W * H))) (Or.inr (Or.inr ⟨_, hc, rfl⟩)) g.2.1
        refine ⟨m3, by rw [bI_t, if_neg one_ne0, j1]; rfl, ?_, ?_, fun k hk => ?_, fun b h1 h2 => ?_⟩
        · rw [if_pos rfl]; exact j2
        · rw [j3 1 (by omega) (by omega) (by omega)]; exact s2
        · rw [j3 1 (by omega) (by omega) (by omega), f21 k hk]
        · rw [j3 b (by omega) (by omega) (by omega), f2 b h1]
  obtain ⟨m1, a1, a2, a3, a4, a5⟩ := pA
  generalize hy : wanA q W H S P x = y at a2 a3
  unfold fX8_wander
  have hd4 : fX8_draw sw m1 4 = some (nI (drV y.2 4), ic_up m1 1 10 (nI (nxN y.2))) := c_draw (n := 4) a3 (by omega) (by omega)
  have h4 : drV y.2 4 < 4 := Nat.mod_lt _ (by omega)
  rw [a1, bd_some, hd4, bd_some]
  dsimp only
  unfold wanB
  by_cases hz : drV y.2 4 = 0
  · have hc : drV (nxN y.2) (W * H) < W * H := Nat.mod_lt _ (by omega)
    rw [if_pos hz, if_pos (show nI (drV y.2 4) = 0 by rw [hz]; rfl), ic_up_ne (by omega), a5 (ic_ld sw) (by omega) (by omega), hr.2.2.2.1, c_draw (sd := nxN y.2) (by rw [ic_up_eq, pk_us]) (by omega) (by omega), bd_some]
    dsimp only
    unfold fX1_laySnow
    rw [if_neg one_ne0, bd_some, pu_e, bd_some, bd_some]
    generalize hm2 : ic_up (ic_up m1 1 10 (nI (nxN y.2))) 1 10 (nI (nxN (nxN y.2))) = m2
    have f2 : ∀ b, b ≠ 1 → m2 b = m1 b := fun b hb => by rw [← hm2, ic_up_ne hb, ic_up_ne hb]
    have f21 : ∀ k, k ≠ 10 → m2 1 k = m1 1 k := fun k hk => by rw [← hm2, ic_up_eq, pk_un hk, ic_up_eq, pk_un hk]
    refine ⟨_, rfl, ⟨fun c hc => ?_, fun p hp => ?_, ?_, ?_, ?_, ?_⟩, ?_, fun k hk => ?_, fun b h1 h2 => ?_⟩
    · rw [ic_up_ne (by omega), f2 _ (by omega)]; exact a2.1 c hc
    · rw [ic_up_ne (by omega), f2 _ (by omega)]; exact a2.2.1 p hp
    · rw [ic_up_eq, pk_us, f2 4 (by omega), a2.2.2.1]; rfl
    · rw [ic_up_eq, pk_un (by omega), f2 4 (by omega)]; exact a2.2.2.2.1
    · rw [ic_up_eq, pk_un (by omega), f2 4 (by omega)]; exact a2.2.2.2.2.1
    · rw [ic_up_eq, pk_un (by omega), f2 4 (by omega)]; exact a2.2.2.2.2.2
    · rw [ic_up_ne (by omega), ← hm2, ic_up_eq, pk_us]
    · rw [ic_up_ne (by omega), f21 k hk, a4 k hk]
    · rw [ic_up_ne (by omega), f2 b h1, a5 b h1 h2]
  · rw [if_neg hz, if_neg (nI_ne0 (by omega) (by omega)), bd_some]
    refine ⟨_, rfl, icA_fr (ic_up_ne (by omega)) (ic_up_ne (by omega)) (ic_up_ne (by omega)) a2, by rw [ic_up_eq, pk_us], fun k hk => by rw [ic_up_eq, pk_un hk, a4 k hk], fun b h1 h2 => by rw [ic_up_ne h1, a5 b h1 h2]⟩
theorem m_day {fu n i : Nat} (e : env (ic_ld sw) m q W H S P) (h1 : m 92 = μ0 92) (h2 : m 93 = μ0 93) (hW : 0 < W) (h0 : 0 < W * H) (hA : rwA m 98 x.1) (hs : m 90 16 = nI x.2) (g : gS x.1 (W * H) P) (hk : sNi x.1 = nI k) (hk2 : k < 2 ^ 30) (hi : i < n) (hn : n ≤ 60) : ∃ m', lpX9_drift_18 (nI n) (fu + 1) (nI i) m = lpX9_drift_18 (nI n) fu (nI (i + 1)) m' ∧ rwA m' 98 (dayS μ0 q W H S P x).1 ∧ m' 90 16 = nI (dayS μ0 q W H S P x).2 ∧ (∀ k, k ≠ 16 → m' 90 k = m 90 k) ∧ ∀ b, b ≠ 98 → b ≠ 90 → m' b = m b := by
  obtain ⟨ho, hr, hm, hl, hpp⟩ := id e.1
  have hP := rOK_P ho
  have hN := rOK_N ho
  have pA : ∃ m1, (if nI P ≤ 0 then some m else ic_ag m 92 7 (3 : Int32) (fun v25 => Option.bind (fX9_draw m v25) (fun q26 => Option.bind (fX9_cells q26.2) (fun v27 => Option.bind (fX9_draw q26.2 v27) (fun q28 => Option.bind (fX9_canGo q28.2 98 q26.1 q28.1) (fun v29 => (if v29 = 0 then some q28.2 else Option.bind (fX9_steps q28.2 98 q26.1 q28.1) (fun q30 => some q30.2)))))))) = some m1 ∧ rwA m1 98 (wanA q W H S P x).1 ∧ m1 90 16 = nI (wanA q W H S P x).2 ∧ (∀ k, k ≠ 16 → m1 90 k = m 90 k) ∧ ∀ b, b ≠ 98 → b ≠ 90 → m1 b = m b := by
    unfold wanA
    by_cases hp0 : P = 0
    · rw [if_pos hp0, hp0, if_pos (by decide)]
      exact ⟨m, rfl, hA, hs, fun _ _ => rfl, fun _ _ _ => rfl⟩
    · have hp : drV x.2 P < P := Nat.mod_lt _ (by omega)
      have hc : drV (nxN x.2) (W * H) < W * H := Nat.mod_lt _ (by omega)
      rw [if_neg hp0, if_neg (nI_nle (by omega) (by omega)), show ic_ag m 92 7 (3 : Int32) = ic_ag m 92 7 (nI 3) from rfl, m_ag92 (by omega), hm.2.2.2, m_draw hs (by omega) (by omega), bd_some]
      dsimp only
      rw [m_cells (mR_fr (ic_up_ne (by omega)) hm), bd_some, m_draw (sd := nxN x.2) (by rw [ic_up_eq, pk_us]) (by omega) (by omega), bd_some]
      dsimp only
      generalize hm2 : ic_up (ic_up m 90 16 (nI (nxN x.2))) 90 16 (nI (nxN (nxN x.2))) = m2
      have f2 : ∀ b, b ≠ 90 → m2 b = m b := fun b hb => by rw [← hm2, ic_up_ne hb, ic_up_ne hb]
      have f21 : ∀ k, k ≠ 16 → m2 90 k = m 90 k := fun k hk => by rw [← hm2, ic_up_eq, pk_un hk, ic_up_eq, pk_un hk]
      have s2 : m2 90 16 = nI (nxN (nxN x.2)) := by rw [← hm2, ic_up_eq, pk_us]
      have e2 : env (ic_ld sw) m2 q W H S P := env_fr (fun b hb => f2 b (by omega)) e
      have hA2 : rwA m2 98 x.1 := rwA_fr (f2 98 (by omega)) hA
      rw [m_canC e2 il_m.1 hA2 g.1 hp (g.2.1 _ hp) hc, bd_some]
      cases hg : goS W (W * H) (colN W (q (2 * drV x.2 P))) (sP x.1 (drV x.2 P)) (sI x.1) (drV (nxN x.2) (W * H))
      · refine ⟨m2, by rw [bI_f, if_pos rfl], ?_, s2, f21, fun b _ h2 => f2 b h2⟩
        rw [if_neg (by simp)]; exact hA2
      · obtain ⟨m3, j1, j2, j3⟩ := m_steps e2 (Or.inl rfl) hA2 g.1 hp (x := nI (drV (nxN x.2) (W * H))) (Or.inr (Or.inr ⟨_, hc, rfl⟩)) g.2.1
        refine ⟨m3, by rw [bI_t, if_neg one_ne0, j1]; rfl, ?_, ?_, fun k hk => ?_, fun b h1 h2 => ?_⟩
        · rw [if_pos rfl]; exact j2
        · rw [j3 90 (by omega)]; exact s2
        · rw [j3 90 (by omega), f21 k hk]
        · rw [j3 b h1, f2 b h2]
  obtain ⟨m1, a1, a2, a3, a4, a5⟩ := pA
  by_cases hsd : x.2 < 2 ^ 31 ∨ True
  · have hAg : gS (wanA q W H S P x).1 (W * H) P ∧ sNi (wanA q W H S P x).1 = sNi x.1 := by
      unfold wanA
      by_cases hp0 : P = 0
      · rw [if_pos hp0]; exact ⟨g, rfl⟩
      · rw [if_neg hp0]
        have hp : drV x.2 P < P := Nat.mod_lt _ (by omega)
        have hc : drV (nxN x.2) (W * H) < W * H := Nat.mod_lt _ (by omega)
        constructor
        · dsimp only
          split
          · rename_i hg
            exact gS_clm (gS_brk hP hN (gS_put g hp (Or.inr ⟨_, hc, rfl, goS_t hg⟩) hN))
          · exact g
        · dsimp only
          split <;> rfl
    obtain ⟨g1, g2⟩ := hAg
    obtain ⟨w1, w2, w3⟩ := wanB_g (x := wanA q W H S P x) g1
    generalize hy : wanA q W H S P x = y at a2 a3 g1 g2 w1 w2 w3
    have hd4 : fX9_draw m1 4 = some (nI (drV y.2 4), ic_up m1 90 16 (nI (nxN y.2))) := m_draw (n := 4) a3 (by omega) (by omega)
    have h4 : drV y.2 4 < 4 := Nat.mod_lt _ (by omega)
    have pB : ∃ m2, (if nI (drV y.2 4) = 0 then ic_ag (ic_up m1 90 16 (nI (nxN y.2))) 98 28 (24 : Int32) (fun v33 => Option.bind (fX9_cells (ic_up m1 90 16 (nI (nxN y.2)))) (fun v34 => Option.bind (fX9_draw (ic_up m1 90 16 (nI (nxN y.2))) v34) (fun q35 => ic_as q35.2 98 28 (24 : Int32) (v33 ||| ((1 : Int32) <<< (q35.1 &&& 31))) (fun m36 => some m36)))) else some (ic_up m1 90 16 (nI (nxN y.2)))) = some m2 ∧ rwA m2 98 (wanB (W * H) y).1 ∧ m2 90 16 = nI (wanB (W * H) y).2 ∧ (∀ k, k ≠ 16 → m2 90 k = m 90 k) ∧ ∀ b, b ≠ 98 → b ≠ 90 → m2 b = m b := by
      unfold wanB
      by_cases hz : drV y.2 4 = 0
      · have hc : drV (nxN y.2) (W * H) < W * H := Nat.mod_lt _ (by omega)
        rw [if_pos hz, if_pos (show nI (drV y.2 4) = 0 by rw [hz]; rfl), show ∀ m, ic_ag m 98 28 (24 : Int32) = ic_ag (α := ic_M) m 98 28 (nI 24) from fun _ => rfl, ag_n (by omega) (by omega), ic_up_ne (by omega), a2.2.2.1, m_cells (mR_fr (by rw [ic_up_ne (by omega), a5 92 (by omega) (by omega)]) hm), bd_some, m_draw (sd := nxN y.2) (by rw [ic_up_eq, pk_us]) (by omega) (by omega), bd_some]
        dsimp only
        generalize hm2 : ic_up (ic_up m1 90 16 (nI (nxN y.2))) 90 16 (nI (nxN (nxN y.2))) = m2
        have f2 : ∀ b, b ≠ 90 → m2 b = m1 b := fun b hb => by rw [← hm2, ic_up_ne hb, ic_up_ne hb]
        rw [show ic_as (α := ic_M) m2 98 28 (24 : Int32) = ic_as m2 98 28 (nI 24) from rfl, as_n (by omega) (by omega)]
        refine ⟨_, rfl, ⟨fun c hc => ?_, fun p hp => ?_, ?_, ?_, ?_, ?_⟩, ?_, fun k hk => ?_, fun b h1 h2 => ?_⟩
        · rw [ic_up_eq, pk_un (by omega), f2 98 (by omega)]; exact a2.1 c hc
        · rw [ic_up_eq, pk_un (by omega), f2 98 (by omega)]; exact a2.2.1 p hp
        · rw [ic_up_eq, pk_us]; rfl
        · rw [ic_up_eq, pk_un (by omega), f2 98 (by omega)]; exact a2.2.2.2.1
        · rw [ic_up_eq, pk_un (by omega), f2 98 (by omega)]; exact a2.2.2.2.2.1
        · rw [ic_up_eq, pk_un (by omega), f2 98 (by omega)]; exact a2.2.2.2.2.2
        · rw [ic_up_ne (by omega), ← hm2, ic_up_eq, pk_us]
        · rw [ic_up_ne (by omega), ← hm2, ic_up_eq, pk_un hk, ic_up_eq, pk_un hk, a4 k hk]
        · rw [ic_up_ne h1, f2 b h2, a5 b h1 h2]
      · rw [if_neg hz, if_neg (nI_ne0 (by omega) (by omega))]
        refine ⟨_, rfl, rwA_fr (ic_up_ne (by omega)) a2, by rw [ic_up_eq, pk_us], fun k hk => by rw [ic_up_eq, pk_un hk, a4 k hk], fun b h1 h2 => by rw [ic_up_ne h2, a5 b h1 h2]⟩
    obtain ⟨m2, b1, b2, b3, b4, b5⟩ := pB
    obtain ⟨m3, c1, c2, c3⟩ := m_pass (μ0 := μ0) (env_fr (fun b hb => b5 b (by omega) (by omega)) e) (by rw [b5 92 (by omega) (by omega), h1]) (by rw [b5 93 (by omega) (by omega), h2]) hW (Or.inl rfl) b2 w1.1 w1.2.1 (k := k) (by rw [w2, g2]; exact hk) hk2
    refine ⟨m3, ?_, ?_, ?_, fun k hk => ?_, fun b h1 h2 => ?_⟩
    · rw [lpX9_drift_18, if_neg (nI_ge hi (by omega)), show ∀ T : Int32 → Option ic_M, ic_ag m 92 7 (3 : Int32) T = ic_ag m 92 7 (nI 3) T from fun _ => rfl, m_ag92 (by omega), hm.2.2.2, a1, bd_some, hd4, bd_some]
      dsimp only
      rw [b1, bd_some, c1, bd_some, lt_e, nI_1]
    · rw [day_e, hy, pas2_1]; exact c2
    · rw [day_e, hy, pas2_2, c3 90 (by omega)]; exact b3
    · rw [c3 90 (by omega), b4 k hk]
    · rw [c3 b h1, b5 b h1 h2]
  · exact absurd (Or.inr trivial) hsd
end DRI
