/-! ===== what is remembered ===== -/
theorem ob_ring : ∀ nx, nx < 16 → ic_ob (9 + 3 * nx) = 1 := by decide +kernel
theorem c_at {μ : ic_M} {nx : Nat} (h : nx < 16) : fX3_stateAt μ (nI nx) = some (9 + 3 * nx) := by
  unfold fX3_stateAt
  rw [if_neg (nI_pos (by omega)), if_neg (show ¬ (16 : Int32) ≤ nI nx from nI_ge (b := 16) h (by omega)), ic_ax, nI_clamp (by omega), if_neg (by
    rintro (h1 | h1)
    · exact nI_pos (by omega) h1
    · omega)]
  rfl
theorem ck_ring {α : Type} {nx : Nat} {T : Option α} (h : nx < 16) : ic_ck (9 + 3 * nx) 1 T = T := by
  rw [ic_ck, if_pos ⟨ob_ring nx h, by omega⟩]
theorem c_rem {μ : ic_M} {n nx : Nat} {s : iceS} (hn : n ≤ 16) (hx : nx < 16) (h1 : μ 7 2 = nI n) (h2 : μ 7 1 = nI nx) (hA : icA μ 4 s) : ∃ μ', fX3_remember μ 4 = some μ' ∧ μ' 7 1 = nI ((nx + 1) % 16) ∧ μ' 7 2 = nI (min (n + 1) 16) ∧ icA μ' (9 + 3 * nx) s ∧ ∀ b, b ≠ 7 → ¬ (9 + 3 * nx ≤ b ∧ b ≤ 9 + 3 * nx + 2) → μ' b = μ b := by
  obtain ⟨m1, k1, k2, k3⟩ := c_copy (a := 9 + 3 * nx) (b := 4) (Or.inr (by omega)) hA
  have e7 : m1 7 = μ 7 := k3 7 (by omega) (by omega) (by omega)
  refine ⟨ic_up (ic_up m1 7 1 (nI ((nx + 1) % 16))) 7 2 (nI (min (n + 1) 16)), ?_, ?_, ?_, ?_, fun b hb1 hb2 => ?_⟩
  · unfold fX3_remember
    rw [h2, c_at hx, bd_some, if_neg (by omega), ck_ring hx, k1, bd_some, e7, h2]
    have e1 : (if nI nx = (16 : Int32) - 1 then some (0 : Int32) else some (nI nx + 1)) = some (nI ((nx + 1) % 16)) := by
      by_cases h : nx = 15
      · subst h; rfl
      · rw [if_neg (show ¬ nI nx = (16 : Int32) - 1 from fun e => h ((nI_eq (b := 15) (by omega) (by omega)).mp e)), nI_1, Nat.mod_eq_of_lt (by omega)]
    rw [e1, bd_some, pu_e, pu_e, bd_some]
    have e2 : ic_up m1 7 1 (nI ((nx + 1) % 16)) 7 2 = nI n := by rw [ic_up_eq, pk_un (by omega), e7, h1]
    rw [e2, nI_1]
    have e3 : (if (16 : Int32) < nI (n + 1) then (16 : Int32) else nI (n + 1)) = nI (min (n + 1) 16) := by
      by_cases h : n = 16
      · subst h; rfl
      · rw [if_neg (show ¬ (16 : Int32) < nI (n + 1) from nI_nlt (a := 16) (by omega) (by omega)), Nat.min_eq_left (by omega)]
    rw [e3]
  · rw [ic_up_eq, pk_un (by omega), ic_up_eq, pk_us]
  · rw [ic_up_eq, pk_us]
  · exact icA_fr (by rw [ic_up_ne (by omega), ic_up_ne (by omega)]) (by rw [ic_up_ne (by omega), ic_up_ne (by omega)]) (by rw [ic_up_ne (by omega), ic_up_ne (by omega)]) k2
  · rw [ic_up_ne hb1, ic_up_ne hb1]
    exact k3 b (by omega) (by omega) (by omega)
theorem il_m : ic_il 106 98 = 28 ∧ ic_il 106 99 = 28 ∧ ic_il 106 100 = 448 ∧ ic_il 106 101 = 56 := by decide +kernel
theorem m_notes {μ : ic_M} {n : Nat} (hn : n ≤ 16) (h1 : μ 90 12 = nI n) : ∃ μ', fX9_notes μ = some μ' ∧ μ' 90 12 = nI (min (n + 1) 16) ∧ (∀ k, k ≠ 12 → μ' 90 k = μ 90 k) ∧ (n < 16 → (∀ j, j < n → ∀ k, k < 28 → μ' 100 (28 * j + k) = μ 100 (28 * j + k)) ∧ ∀ k, k < 28 → μ' 100 (28 * n + k) = μ 98 (0 + k)) ∧ (n = 16 → (∀ j, j < 15 → ∀ k, k < 28 → μ' 100 (28 * j + k) = μ 100 (28 * (j + 1) + k)) ∧ ∀ k, k < 28 → μ' 100 (420 + k) = μ 98 (0 + k)) ∧ ∀ b, b ≠ 90 → b ≠ 100 → μ' b = μ b := by
  unfold fX9_notes
  by_cases h16 : n = 16
  · subst h16
    have k1 := for_M (lp := fun fu i m => lpX9_notes_11 fu (nI i) m) (M := pm μ 100 0 (fun _ => true) (fun k => μ 100 (k + 28))) (fin := some (pm μ 100 0 (fun _ => true) (fun k => μ 100 (k + 28)) 420)) 420 (by omega) (fun fu i hi => by
        rw [lpX9_notes_11, if_neg (show ¬ (420 : Int32) ≤ nI i from nI_ge (b := 420) hi (by omega)), show nI i + (28 : Int32) = nI (i + 28) from nI_add i 28, ag_n (by omega) (by omega), pm_ge (by omega), as_n (by omega) (by omega), lt_e, nI_1, ← pm_t (i := i) rfl, Nat.zero_add]) (fun fu => by
        rw [lpX9_notes_11, if_pos (by decide)])
    rw [pm_0] at k1
    have k1 : lpX9_notes_11 1000 0 μ = _ := k1
    rw [h1, if_pos (show nI 16 = (16 : Int32) from rfl), k1, bd_some, pu_e, bd_some, pm_ne (by omega), h1]
    generalize hm1 : ic_up (pm μ 100 0 (fun _ => true) (fun k => μ 100 (k + 28)) 420) 90 12 (nI 16 - 1) = m1
    have e90 : m1 90 12 = nI 15 := by rw [← hm1, ic_up_eq, pk_us]; rfl
    have f98 : m1 98 = μ 98 := by
      rw [← hm1, ic_up_ne (by omega)]; funext k; exact pm_ne (by omega) k
    obtain ⟨m2, k2, k3, k4, k5⟩ := m_copies (μ := m1) (r0 := 98) (r2 := 100) (x := 0) (y := 420) (n := 28) (by omega) (by rw [il_m.1]; omega) (by rw [il_m.2.2.1]; omega) (by rw [il_m.1]; omega) (by rw [il_m.2.2.1]; omega) (by omega)
    refine ⟨ic_up m2 90 12 (nI 16), ?_, by rw [ic_up_eq, pk_us]; rfl, fun k hk => ?_, fun h => absurd h (by omega), fun _ => ⟨fun j hj k hk => ?_, fun k hk => ?_⟩, fun b hb1 hb2 => ?_⟩
    · rw [e90, show (28 : Int32) * nI 15 = nI 420 from rfl, show fX9_copies m1 98 (0 : Int32) 100 (nI 420) (28 : Int32) = fX9_copies m1 98 (nI 0) 100 (nI 420) (nI 28) from rfl, k2, bd_some, pu_e, k5 90 (by omega), e90]; rfl
    · rw [ic_up_eq, pk_un hk, k5 90 (by omega), ← hm1, ic_up_eq, pk_un hk, pm_ne (by omega)]
    · rw [ic_up_ne (by omega), k4 _ (by omega), ← hm1, ic_up_ne (by omega), pm_in0 (by omega), if_pos rfl]
      rw [show 28 * j + k + 28 = 28 * (j + 1) + k by omega]
    · rw [ic_up_ne (by omega), k3 k hk, f98]
    · rw [ic_up_ne hb1, k5 b hb2, ← hm1, ic_up_ne hb1]; funext k; exact pm_ne hb2 k
  · rw [h1, if_neg (show ¬ nI n = (16 : Int32) from fun e => h16 ((nI_eq (b := 16) (by omega) (by omega)).mp e)), bd_some, h1]
    obtain ⟨m2, k2, k3, k4, k5⟩ := m_copies (μ := μ) (r0 := 98) (r2 := 100) (x := 0) (y := 28 * n) (n := 28) (by omega) (by rw [il_m.1]; omega) (by rw [il_m.2.2.1]; omega) (by rw [il_m.1]; omega) (by rw [il_m.2.2.1]; omega) (by omega)
    refine ⟨ic_up m2 90 12 (nI (n + 1)), ?_, by rw [ic_up_eq, pk_us, Nat.min_eq_left (by omega)], fun k hk => ?_, fun _ => ⟨fun j hj k hk => ?_, fun k hk => ?_⟩, fun h => absurd h h16, fun b hb1 hb2 => ?_⟩
    · rw [show (28 : Int32) * nI n = nI (28 * n) from pk_mul 28 n, show fX9_copies μ 98 (0 : Int32) 100 (nI (28 * n)) (28 : Int32) = fX9_copies μ 98 (nI 0) 100 (nI (28 * n)) (nI 28) from rfl, k2, bd_some, pu_e, k5 90 (by omega), h1, nI_1]
    · rw [ic_up_eq, pk_un hk, k5 90 (by omega)]
    · rw [ic_up_ne (by omega), k4 _ (by omega)]
    · rw [ic_up_ne (by omega), k3 k hk]
    · rw [ic_up_ne hb1, k5 b hb2]
theorem iP_push {μ μd : ic_M} {N P n nx : Nat} {s : iceS} (hP6 : P ≤ 6) (hN18 : N ≤ 18) (hn : n ≤ 16) (hx : nx < 16) (old : ∀ j, j < n → E28 μ (rg nx n j) 100 (28 * j) ∧ gd (μ 100) (28 * j) N P)
    (hca : ∀ b, 9 ≤ b → b ≤ 56 → ¬ (9 + 3 * nx ≤ b ∧ b ≤ 9 + 3 * nx + 2) → μd b = μ b) (hcn : icA μd (9 + 3 * nx) s) (hg : gS s N P) (h71 : μd 7 1 = nI ((nx + 1) % 16)) (h72 : μd 7 2 = nI (min (n + 1) 16)) (h90 : μd 90 12 = nI (min (n + 1) 16))
    (r1 : n < 16 → (∀ j, j < n → ∀ k, k < 28 → μd 100 (28 * j + k) = μ 100 (28 * j + k)) ∧ rwO μd 100 (28 * n) s) (r2 : n = 16 → (∀ j, j < 15 → ∀ k, k < 28 → μd 100 (28 * j + k) = μ 100 (28 * (j + 1) + k)) ∧ rwO μd 100 420 s) : iP μd N P := by
  have mv : ∀ j i o, j < n → rg nx n j = 9 + 3 * i → i ≠ nx → i < 16 → (∀ k, k < 28 → μd 100 (o + k) = μ 100 (28 * j + k)) → E28 μd (9 + 3 * i) 100 o ∧ gd (μd 100) o N P := by
    intro j i o hj hi hne hi16 hk
    obtain ⟨e, g⟩ := old j hj
    have a1 := E_to e
    rw [hi] at a1
    have a2 : rwO μd 100 o (stO μ 100 (28 * j)) := rwO_cp hk (stO_rw μ 100 (28 * j))
    refine ⟨E_of (icA_fr (hca _ (by omega) (by omega) (by omega)) (hca _ (by omega) (by omega) (by omega)) (hca _ (by omega) (by omega) (by omega)) a1) a2, gd_of hP6 hN18 a2 (gd_to g)⟩
  refine ⟨min (n + 1) 16, (nx + 1) % 16, by omega, by omega, h72, h71, h90, fun j hj => ?_⟩
  rcases Nat.lt_or_ge n 16 with h16 | h16
  · obtain ⟨q1, q2⟩ := r1 h16
    by_cases hjn : j = n
    · subst hjn
      have e : rg ((nx + 1) % 16) (min (j + 1) 16) j = 9 + 3 * nx := by unfold rg; omega
      rw [e]
      exact ⟨E_of hcn q2, gd_of hP6 hN18 q2 hg⟩
    · have e : rg ((nx + 1) % 16) (min (n + 1) 16) j = 9 + 3 * ((nx + 16 - n + j) % 16) := by unfold rg; omega
      rw [e]
      exact mv j _ _ (by omega) rfl (by omega) (by omega) (q1 j (by omega))
  · obtain ⟨q1, q2⟩ := r2 (by omega)
    by_cases hjn : j = 15
    · subst hjn
      have e : rg ((nx + 1) % 16) (min (n + 1) 16) 15 = 9 + 3 * nx := by unfold rg; omega
      rw [e]
      exact ⟨E_of hcn q2, gd_of hP6 hN18 q2 hg⟩
    · have e : rg ((nx + 1) % 16) (min (n + 1) 16) j = 9 + 3 * ((nx + 16 - n + (j + 1)) % 16) := by unfold rg; omega
      rw [e]
      exact mv (j + 1) _ _ (by omega) rfl (by omega) (by omega) (q1 j (by omega))
/-- before a deed both sides keep what is -/
theorem rec_push {R : Nat} {μ : ic_M} {W H S P : Nat} (h : ic_J R μ W H S P) : ∃ μa, fX3_remember μ 4 = some μa ∧ (∀ b, b ≠ 7 → ¬ (9 ≤ b ∧ b ≤ 56) → μa b = μ b) ∧ ∀ μb : ic_M, (∀ b, b = 7 ∨ (9 ≤ b ∧ b ≤ 56) ∨ b = 98 ∨ b = 100 → μb b = μa b) → μb 90 12 = μa 90 12 → ∃ μc, fX9_notes μb = some μc ∧ (∀ b, b ≠ 90 → b ≠ 100 → μc b = μb b) ∧ (∀ k, k ≠ 12 → μc 90 k = μb 90 k) ∧ ∀ μd : ic_M, (∀ b, b = 7 ∨ (9 ≤ b ∧ b ≤ 56) ∨ b = 100 → μd b = μc b) → μd 90 12 = μc 90 12 → iP μd (W * H) P := by
  have ho := h.1.1
  have hN := rOK_N ho
  have hP := rOK_P ho
  obtain ⟨n, nx, a1, a2, a3, a4, a5, a6⟩ := h.2.2.2.2.2.1
  obtain ⟨s, s1, s2, s3⟩ := iN_to h.2.2.2.2.1
  obtain ⟨μa, b1, b2, b3, b4, b5⟩ := c_rem a1 a2 a3 a4 s1
  refine ⟨μa, b1, fun b h1 h2 => b5 b h1 (by omega), fun μb f1 f2 => ?_⟩
  have e12 : μb 90 12 = nI n := by rw [f2, b5 90 (by omega) (by omega), a5]
  obtain ⟨μc, c1, c2, c3, c4, c5, c6⟩ := m_notes a1 e12
  refine ⟨μc, c1, c6, c3, fun μd d1 d2 => ?_⟩
  have e98 : rwO μb 98 0 s := rwA_O.mp (rwA_fr (by rw [f1 98 (by omega), b5 98 (by omega) (by omega)]) s2)
  have eb100 : μb 100 = μ 100 := by rw [f1 100 (by omega), b5 100 (by omega) (by omega)]
  have hd : ∀ b, b = 7 ∨ (9 ≤ b ∧ b ≤ 56) → μd b = μa b := fun b hb => by
    rw [d1 b (by omega), c6 b (by omega) (by omega), f1 b (by omega)]
  refine iP_push (μ := μ) hP hN a1 a2 a6 (fun b h1 h2 h3 => ?_) (icA_fr (hd _ (by omega)) (hd _ (by omega)) (hd _ (by omega)) b4) s3 ?_ ?_ ?_ (fun h16 => ⟨fun j hj k hk => ?_, ?_⟩) (fun h16 => ⟨fun j hj k hk => ?_, ?_⟩)
  · rw [hd b (by omega)]; exact b5 b (by omega) h3
  · rw [hd 7 (by omega)]; exact b2
  · rw [hd 7 (by omega)]; exact b3
  · rw [d2, c2]
  · rw [d1 100 (by omega), (c4 h16).1 j hj k hk, eb100]
  · exact rwO_cp (fun k hk => by rw [d1 100 (by omega), (c4 h16).2 k hk]) e98
  · rw [d1 100 (by omega), (c5 h16).1 j hj k hk, eb100]
  · exact rwO_cp (fun k hk => by rw [d1 100 (by omega), (c5 h16).2 k hk]) e98
/-- what a deed leaves alone -/
theorem J_fr {sw : Nat} {μ μ' : ic_M} {W H S P : Nat} (h : ic_J (ic_ld sw) μ W H S P) (f : ∀ b, b ≠ 1 → ¬ (4 ≤ b ∧ b ≤ 60) → b ≠ 64 → b ≠ 65 → b ≠ 90 → ¬ (98 ≤ b ∧ b ≤ 100) → b ≠ 106 → μ' b = μ b) (f1 : ∀ k, k ≠ 10 → μ' 1 k = μ 1 k) (f90 : ∀ k, k ≠ 12 → k ≠ 16 → μ' 90 k = μ 90 k) (hS : iS μ') (hN : iN μ' (W * H) P) (hP : iP μ' (W * H) P) : ic_J (ic_ld sw) μ' W H S P := by
  have hl := ld_hi sw
  have g : ∀ b, (b = 2 ∨ b = 3 ∨ b = 91 ∨ (61 ≤ b ∧ b ≤ 63) ∨ (66 ≤ b ∧ b ≤ 89) ∨ (92 ≤ b ∧ b ≤ 97) ∨ (101 ≤ b ∧ b ≤ 105)) → μ' b = μ b := fun b hb => f b (by omega) (by omega) (by omega) (by omega) (by omega) (by omega) (by omega)
  exact ⟨iR_fr (fun b hb => g b (by omega)) h.1, iT_fr (by rw [g 2 (by omega)]) (f90 1 (by omega) (by omega)) (g 3 (by omega)) (g 91 (by omega)) h.2.1, by rw [f1 11 (by omega), f90 2 (by omega) (by omega)]; exact h.2.2.1, hS, hN, hP, iK_fr (f1 9 (by omega)) (fun b h1 h2 => g b (by omega)) (g 101 (by omega)) (g 102 (by omega)) (g 103 (by omega)) h.2.2.2.2.2.2.1, iW_fr (by rw [g 61 (by omega)]) (f90 18 (by omega) (by omega)) (g 62 (by omega)) (g 63 (by omega)) (g 104 (by omega)) h.2.2.2.2.2.2.2.1, iB_fr (by rw [g 66 (by omega)]) (f90 20 (by omega) (by omega)) (g 67 (by omega)) (g 68 (by omega)) (g 105 (by omega)) h.2.2.2.2.2.2.2.2⟩
/-! ===== a deed: what each side does to the ice is the same ===== -/
theorem deedK {sw : Nat} {μ : ic_M} {W H S P : Nat} {G : Prop} (h : ic_J (ic_ld sw) μ W H S P) {A B : ic_M → Option (Int32 × ic_M)} (hdo : ∀ s, icA μ 4 s → rwA μ 98 s → gS s (W * H) P → ∃ (s' : iceS) (v : Int32), gS s' (W * H) P ∧ (∀ m, env (ic_ld sw) m (μ 94) W H S P → m 92 = μ 92 → m 93 = μ 93 → icA m 4 s → ∃ m', A m = some (v, m') ∧ icA m' 4 s' ∧ ∀ b, ¬ (4 ≤ b ∧ b ≤ 6) → m' b = m b) ∧ ∀ m, env (ic_ld sw) m (μ 94) W H S P → m 92 = μ 92 → m 93 = μ 93 → rwA m 98 s → ∃ m', B m = some (v, m') ∧ rwA m' 98 s' ∧ ∀ b, b ≠ 98 → m' b = m b)
    (k : ∀ (v : Int32) (μ1 μ2 : ic_M), Option.bind (fX3_remember μ 4) A = some (v, μ1) → Option.bind (fX9_notes μ1) B = some (v, μ2) → (∀ b, b ≠ 7 → ¬ (9 ≤ b ∧ b ≤ 56) → ¬ (4 ≤ b ∧ b ≤ 6) → μ1 b = μ b) → ic_I sw μ2 → G) : G := by
  have hP := rOK_P h.1.1
  have hN := rOK_N h.1.1
  obtain ⟨s, s1, s2, s3⟩ := iN_to h.2.2.2.2.1
  obtain ⟨s', v, g', dA, dB⟩ := hdo s s1 s2 s3
  obtain ⟨μa, a1, a2, a3⟩ := rec_push h
  obtain ⟨μb, b1, b2, b3⟩ := dA μa (env_fr (fun b hb => a2 b (by omega) (by omega)) (env_J h)) (a2 92 (by omega) (by omega)) (a2 93 (by omega) (by omega)) (icA_fr (a2 4 (by omega) (by omega)) (a2 5 (by omega) (by omega)) (a2 6 (by omega) (by omega)) s1)
  obtain ⟨μc, c1, c2, c3, c4⟩ := a3 μb (fun b hb => b3 b (by omega)) (by rw [b3 90 (by omega)])
  have fc : ∀ b, b ≠ 7 → ¬ (9 ≤ b ∧ b ≤ 56) → ¬ (4 ≤ b ∧ b ≤ 6) → b ≠ 90 → b ≠ 100 → μc b = μ b := fun b h1 h2 h3 h4 h5 => by
    rw [c2 b h4 h5, b3 b h3, a2 b h1 h2]
  obtain ⟨μd, d1, d2, d3⟩ := dB μc (env_fr (fun b hb => fc b (by omega) (by omega) (by omega) (by omega) (by omega)) (env_J h)) (fc 92 (by omega) (by omega) (by omega) (by omega) (by omega)) (fc 93 (by omega) (by omega) (by omega) (by omega) (by omega)) (rwA_fr (fc 98 (by omega) (by omega) (by omega) (by omega) (by omega)) s2)
  refine k v μb μd (by rw [a1]; exact b1) (by rw [c1]; exact d1) (fun b h1 h2 h3 => by rw [b3 b h3, a2 b h1 h2]) ⟨W, H, S, P, ?_⟩
  have f90 : ∀ k, k ≠ 12 → μd 90 k = μ 90 k := fun k hk => by
    rw [d3 90 (by omega), c3 k hk, b3 90 (by omega), a2 90 (by omega) (by omega)]
  have fa : ∀ b, b ≠ 7 → ¬ (9 ≤ b ∧ b ≤ 56) → ¬ (4 ≤ b ∧ b ≤ 6) → b ≠ 90 → b ≠ 98 → b ≠ 100 → μd b = μ b := fun b h1 h2 h3 h4 h5 h6 => by rw [d3 b h5, fc b h1 h2 h3 h4 h6]
  refine J_fr h (fun b h1 h2 h3 h4 h5 h6 h7 => fa b (by omega) (by omega) (by omega) h5 (by omega) (by omega)) (fun k hk => by rw [fa 1 (by omega) (by omega) (by omega) (by omega) (by omega) (by omega)]) (fun k h1 h2 => f90 k h1) (iS_fr (by rw [fa 1 (by omega) (by omega) (by omega) (by omega) (by omega) (by omega)]) (f90 16 (by omega)) h.2.2.2.1) (iN_of hP hN (icA_fr ?_ ?_ ?_ b2) d2 g') (c4 μd (fun b hb => d3 b (by omega)) (by rw [d3 90 (by omega)]))
  · rw [d3 4 (by omega), c2 4 (by omega) (by omega)]
  · rw [d3 _ (by omega), c2 _ (by omega) (by omega)]
  · rw [d3 _ (by omega), c2 _ (by omega) (by omega)]
/-- what is only tried leaves all as it was -/
theorem J_tr {sw : Nat} {μ μ' : ic_M} (hI : ic_I sw μ) (f : ∀ b, ¬ (57 ≤ b ∧ b ≤ 60) → b ≠ 64 → b ≠ 65 → b ≠ 99 → b ≠ 106 → μ' b = μ b) : ic_I sw μ' := by
  obtain ⟨W, H, S, P, h⟩ := hI
  refine ⟨W, H, S, P, J_fr h (fun b h1 h2 h3 h4 h5 h6 h7 => f b (by omega) h3 h4 (by omega) h7) (fun k _ => by rw [f 1 (by omega) (by omega) (by omega) (by omega) (by omega)]) (fun k _ _ => by rw [f 90 (by omega) (by omega) (by omega) (by omega) (by omega)]) ?_ ?_ ?_⟩
  · exact iS_fr (by rw [f 1 (by omega) (by omega) (by omega) (by omega) (by omega)]) (by rw [f 90 (by omega) (by omega) (by omega) (by omega) (by omega)]) h.2.2.2.1
  · exact iN_fr (f 4 (by omega) (by omega) (by omega) (by omega) (by omega)) (f 5 (by omega) (by omega) (by omega) (by omega) (by omega)) (f 6 (by omega) (by omega) (by omega) (by omega) (by omega)) (f 98 (by omega) (by omega) (by omega) (by omega) (by omega)) h.2.2.2.2.1
  · exact iP_fr (by rw [f 7 (by omega) (by omega) (by omega) (by omega) (by omega)]) (by rw [f 7 (by omega) (by omega) (by omega) (by omega) (by omega)]) (by rw [f 90 (by omega) (by omega) (by omega) (by omega) (by omega)]) (fun b h1 h2 => f b (by omega) (by omega) (by omega) (by omega) (by omega)) (f 100 (by omega) (by omega) (by omega) (by omega) (by omega)) h.2.2.2.2.2.1
/-- a loop whose states are only known by what holds of them -/
theorem for_R {σ τ : Type} {lp : Nat → Nat → σ → Option τ} {Q : τ → Prop} (N : Nat) (hN : N < 1000) (I : Nat → σ → Prop) (hs : ∀ fu i s, i < N → I i s → ∃ s', lp (fu + 1) i s = lp fu (i + 1) s' ∧ I (i + 1) s') (hx : ∀ fu s, I N s → ∃ t, lp (fu + 1) N s = some t ∧ Q t) : ∀ s, I 0 s → ∃ t, lp 1000 0 s = some t ∧ Q t := by
  have key : ∀ n fu i s, i + n = N → n < fu → I i s → ∃ t, lp fu i s = some t ∧ Q t := by
    intro n
    induction n with
    | zero =>
      intro fu i s hi hfu hI
      have : i = N := by omega
      subst this
      cases fu with
      | zero => omega
      | succ fu => exact hx fu s hI
    | succ n ih =>
      intro fu i s hi hfu hI
      cases fu with
      | zero => omega
      | succ fu =>
        obtain ⟨s', h1, h2⟩ := hs fu i s (by omega) hI
        rw [h1]
        exact ih fu (i + 1) s' (by omega) (by omega) h2
  intro s hI
  exact key N 1000 0 s (by omega) hN hI
