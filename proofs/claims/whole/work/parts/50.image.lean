/-! ===== undo ===== -/
theorem pu_undo {sw : Nat} {μ : ic_M} (hI : ic_I sw μ) : ∃ (v : Int32) (μ1 : ic_M) (μ2 : ic_M), fX8_undo sw μ = some (v, μ1) ∧ fX9_undo μ1 = some (v, μ2) ∧ ic_I sw μ2 := by
  obtain ⟨W, H, S, P, h⟩ := id hI
  have ho := h.1.1
  have hN := rOK_N ho
  have hP := rOK_P ho
  obtain ⟨n, nx, a1, a2, a3, a4, a5, a6⟩ := h.2.2.2.2.2.1
  have el : (if μ 7 1 = 0 then some ((16 : Int32) - 1) else some (μ 7 1 - 1)) = some (nI ((nx + 15) % 16)) := by
    rw [a4]
    by_cases h0 : nx = 0
    · subst h0; rfl
    · rw [if_neg (nI_ne0 (by omega) (by omega)), show nI nx - 1 = nI (nx - 1) from pk_sub (b := 1) (by omega), show (nx + 15) % 16 = nx - 1 by omega]
  have hlt : (nx + 15) % 16 < 16 := by omega
  by_cases h0 : n = 0
  · subst h0
    refine ⟨-1000000003, μ, μ, ?_, ?_, hI⟩
    · unfold fX8_undo fX3_restore
      rw [el, bd_some, c_at hlt, bd_some, a3, if_pos (by decide), rz_0, bd_some, if_pos rfl]; rfl
    · unfold fX9_undo
      rw [a5, if_pos (by decide)]
  · obtain ⟨e0, g0⟩ := a6 (n - 1) (by omega)
    have erg : rg nx n (n - 1) = 9 + 3 * ((nx + 15) % 16) := by unfold rg; omega
    have i0 := E_to e0
    rw [erg] at i0
    obtain ⟨m1, k1, k2, k3⟩ := c_copy (a := 4) (b := 9 + 3 * ((nx + 15) % 16)) (Or.inl (by omega)) i0
    have m7 : m1 7 = μ 7 := k3 7 (by omega) (by omega) (by omega)
    generalize hb : ic_up (ic_up m1 7 1 (nI ((nx + 15) % 16))) 7 2 (nI (n - 1)) = μb
    have fb : ∀ b, b ≠ 7 → ¬ (4 ≤ b ∧ b ≤ 6) → μb b = μ b := fun b h1 h2 => by
      rw [← hb, ic_up_ne h1, ic_up_ne h1, k3 b (by omega) (by omega) (by omega)]
    obtain ⟨m2, j1, j2, j3, j4⟩ := m_copies (μ := ic_up μb 90 12 (nI (n - 1))) (r0 := 100) (r2 := 98) (x := 28 * (n - 1)) (y := 0) (n := 28) (by omega) (by rw [il_m.2.2.1]; omega) (by rw [il_m.1]; omega) (by rw [il_m.2.2.1]; omega) (by rw [il_m.1]; omega) (by omega)
    have f100 : ic_up μb 90 12 (nI (n - 1)) 100 = μ 100 := by rw [ic_up_ne (by omega), fb 100 (by omega) (by omega)]
    have f90 : m2 90 12 = nI (n - 1) := by rw [j4 90 (by omega), ic_up_eq, pk_us]
    have fd : ∀ b, b ≠ 7 → ¬ (4 ≤ b ∧ b ≤ 6) → b ≠ 90 → b ≠ 98 → m2 b = μ b := fun b h1 h2 h3 h4 => by rw [j4 b h4, ic_up_ne h3, fb b h1 h2]
    refine ⟨nI (n - 1), μb, m2, ?_, ?_, W, H, S, P, ?_⟩
    · unfold fX8_undo fX3_restore
      rw [el, bd_some, c_at hlt, bd_some, a3, if_neg (show ¬ nI n < (1 : Int32) from nI_nlt (b := 1) (by omega) (by omega)), if_neg (by omega), ck_ring hlt, k1, bd_some, pu_e, pu_e, rz_1, ic_up_eq, pk_un (by omega), m7, a3, show nI n - 1 = nI (n - 1) from pk_sub (b := 1) (by omega), hb, bd_some, if_neg (by exact one_ne0), bd_some]
      congr 2
      rw [← hb]
      show ic_up (ic_up m1 7 1 (nI ((nx + 15) % 16))) 7 2 (nI (n - 1)) 7 2 = _
      rw [ic_up_eq, pk_us]
    · unfold fX9_undo
      have e12 : μb 90 12 = nI n := by rw [fb 90 (by omega) (by omega)]; exact a5
      rw [e12, if_neg (nI_ne0 (by omega) (by omega)), pu_e, show nI n - 1 = nI (n - 1) from pk_sub (b := 1) (by omega), ic_up_eq, pk_us, show (28 : Int32) * nI (n - 1) = nI (28 * (n - 1)) from pk_mul 28 (n - 1), show ∀ m : ic_M, fX9_copies m 100 (nI (28 * (n - 1))) 98 (0 : Int32) (28 : Int32) = fX9_copies m 100 (nI (28 * (n - 1))) 98 (nI 0) (nI 28) from fun _ => rfl, j1, bd_some, f90]
    · refine J_fr h (fun b h1 h2 h3 h4 h5 h6 h7 => fd b (by omega) (by omega) h5 (by omega)) (fun k _ => by rw [fd 1 (by omega) (by omega) (by omega) (by omega)]) (fun k h1 _ => by rw [j4 90 (by omega), ic_up_eq, pk_un h1, fb 90 (by omega) (by omega)]) (iS_fr (by rw [fd 1 (by omega) (by omega) (by omega) (by omega)]) (by rw [j4 90 (by omega), ic_up_eq, pk_un (by omega), fb 90 (by omega) (by omega)]) h.2.2.2.1) (iN_of hP hN (icA_fr ?_ ?_ ?_ k2) (rwA_O.mpr (rwO_cp (μ := μ) (r0 := 100) (x := 28 * (n - 1)) (fun k hk => by rw [j2 k hk, f100]) (stO_rw μ 100 (28 * (n - 1))))) (gd_to g0)) ?_
      · rw [j4 4 (by omega), ic_up_ne (by omega), ← hb, ic_up_ne (by omega), ic_up_ne (by omega)]
      · rw [j4 _ (by omega), ic_up_ne (by omega), ← hb, ic_up_ne (by omega), ic_up_ne (by omega)]
      · rw [j4 _ (by omega), ic_up_ne (by omega), ← hb, ic_up_ne (by omega), ic_up_ne (by omega)]
      · refine ⟨n - 1, (nx + 15) % 16, by omega, by omega, ?_, ?_, f90, fun j hj => ?_⟩
        · rw [j4 7 (by omega), ic_up_ne (by omega), ← hb, ic_up_eq, pk_us]
        · rw [j4 7 (by omega), ic_up_ne (by omega), ← hb, ic_up_eq, pk_un (by omega), ic_up_eq, pk_us]
        · have er : rg ((nx + 15) % 16) (n - 1) j = rg nx n j := by unfold rg; omega
          rw [er]
          obtain ⟨e1, g1⟩ := a6 j (by omega)
          have hm : (nx + 16 - n + j) % 16 < 16 := Nat.mod_lt _ (by omega)
          rw [fd 100 (by omega) (by omega) (by omega) (by omega)]
          exact ⟨E28_fr (fd _ (by unfold rg; omega) (by unfold rg; omega) (by unfold rg; omega) (by unfold rg; omega)) (fd _ (by unfold rg; omega) (by unfold rg; omega) (by unfold rg; omega) (by unfold rg; omega)) (fd _ (by unfold rg; omega) (by unfold rg; omega) (by unfold rg; omega) (by unfold rg; omega)) (fd 100 (by omega) (by omega) (by omega) (by omega)) e1, g1⟩
/-! ===== images ===== -/
theorem img_out {sw : Nat} {μ : ic_M} {x : Int32} (h : wi x 0 1 = false) : fX8_imageAt sw μ x = some 0 := by
  unfold fX8_imageAt
  by_cases h1 : x < 0
  · rw [if_pos h1]; rfl
  · by_cases h2 : (2 : Int32) ≤ x
    · rw [if_neg h1, if_pos h2]; rfl
    · exfalso
      obtain ⟨j, hj, rfl⟩ := nI_of h1
      have : j < 2 := by
        rcases Nat.lt_or_ge j 2 with h3 | h3
        · exact h3
        · exact absurd (nI_le (a := 2) h3 hj) h2
      have e : wi (nI j) (nI 0) (nI 1) = true := (wi_n (by omega) (by omega)).mpr ⟨j, by omega, by omega, rfl⟩
      have e : wi (nI j) 0 1 = true := e
      rw [h] at e; cases e
theorem kb_or0 (b0 b1 : Bool) : (bI b0 + 2 * bI b1) ||| ((1 : Int32) <<< ((0 : Int32) &&& 31)) = bI true + 2 * bI b1 := by cases b0 <;> cases b1 <;> decide
theorem kb_or1 (b0 b1 : Bool) : (bI b0 + 2 * bI b1) ||| ((1 : Int32) <<< ((1 : Int32) &&& 31)) = bI b0 + 2 * bI true := by cases b0 <;> cases b1 <;> decide
theorem kb_b0 (b0 b1 : Bool) : bt (bI b0 + 2 * bI b1) 0 = b0 := by cases b0 <;> cases b1 <;> decide
theorem kb_b1 (b0 b1 : Bool) : bt (bI b0 + 2 * bI b1) 1 = b1 := by cases b0 <;> cases b1 <;> decide
theorem ob_img : ic_ob 70 = 2 ∧ ic_ob 74 = 2 := by decide +kernel
theorem keep_0 {sw : Nat} {μ : ic_M} (hI : ic_I sw μ) : ∃ (v : Int32) (μ1 : ic_M) (μ2 : ic_M), fX8_keep sw μ 0 = some (v, μ1) ∧ fX9_keep μ1 0 = some (v, μ2) ∧ ic_I sw μ2 := by
  obtain ⟨W, H, S, P, h⟩ := id hI
  have ho := h.1.1
  have hN := rOK_N ho
  have hP := rOK_P ho
  have hld := ld_hi sw
  obtain ⟨s, s1, s2, s3⟩ := iN_to h.2.2.2.2.1
  obtain ⟨b0, b1, q1, q2, q3, q4, q5⟩ := h.2.2.2.2.2.2.1
  obtain ⟨r1, sd, hsd, r2⟩ := h.2.2.2.1
  obtain ⟨m1, k1, k2, k3⟩ := c_copy (a := 71) (b := 4) (Or.inr (by omega)) s1
  have m1r : m1 1 = μ 1 := k3 1 (by omega) (by omega) (by omega)
  generalize hb : ic_up (ic_up (ic_up m1 70 1 (nI sd)) 1 9 (bI true + 2 * bI b1)) 7 2 0 = μb
  have fb : ∀ b, b ≠ 1 → b ≠ 7 → ¬ (70 ≤ b ∧ b ≤ 71 + 2) → μb b = μ b := fun b h1 h2 h3 => by
    rw [← hb, ic_up_ne h2, ic_up_ne h1, ic_up_ne (by omega), k3 b (by omega) (by omega) (by omega)]
  have fb1 : ∀ k, k ≠ 9 → μb 1 k = μ 1 k := fun k hk => by
    rw [← hb, ic_up_ne (by omega), ic_up_eq, pk_un hk, ic_up_ne (by omega), m1r]
  obtain ⟨m2, j1, j2, j3, j4⟩ := m_copies (μ := μb) (r0 := 98) (r2 := 101) (x := 0) (y := 0) (n := 28) (by omega) (by rw [il_m.1]; omega) (by rw [il_m.2.2.2]; omega) (by rw [il_m.1]; omega) (by rw [il_m.2.2.2]; omega) (by omega)
  generalize hd : ic_up (ic_up (ic_up m2 102 0 (nI sd)) 103 0 1) 90 12 0 = μd
  have fd : ∀ b, b ≠ 90 → b ≠ 101 → b ≠ 102 → b ≠ 103 → μd b = μb b := fun b h1 h2 h3 h4 => by
    rw [← hd, ic_up_ne h1, ic_up_ne h4, ic_up_ne h3, j4 b h2]
  have fd90 : ∀ k, k ≠ 12 → μd 90 k = μ 90 k := fun k hk => by
    rw [← hd, ic_up_eq, pk_un hk, ic_up_ne (by omega), ic_up_ne (by omega), j4 90 (by omega), fb 90 (by omega) (by omega) (by omega)]
  have f : ∀ b, b ≠ 1 → b ≠ 7 → ¬ (70 ≤ b ∧ b ≤ 71 + 2) → b ≠ 90 → b ≠ 101 → b ≠ 102 → b ≠ 103 → μd b = μ b := fun b h1 h2 h3 h4 h5 h6 h7 => by rw [fd b h4 h5 h6 h7, fb b h1 h2 h3]
  have f1 : ∀ k, k ≠ 9 → μd 1 k = μ 1 k := fun k hk => by rw [fd 1 (by omega) (by omega) (by omega) (by omega), fb1 k hk]
  have fim : icA μd 71 s := icA_fr (by rw [fd _ (by omega) (by omega) (by omega) (by omega), ← hb, ic_up_ne (by omega), ic_up_ne (by omega), ic_up_ne (by omega)]) (by rw [fd _ (by omega) (by omega) (by omega) (by omega), ← hb, ic_up_ne (by omega), ic_up_ne (by omega), ic_up_ne (by omega)]) (by rw [fd _ (by omega) (by omega) (by omega) (by omega), ← hb, ic_up_ne (by omega), ic_up_ne (by omega), ic_up_ne (by omega)]) k2
  have d101 : μd 101 = m2 101 := by rw [← hd, ic_up_ne (by omega), ic_up_ne (by omega), ic_up_ne (by omega)]
  have frw : rwO μd 101 0 s := rwO_cp (μ := μ) (r0 := 98) (x := 0) (fun k hk => by rw [d101, j2 k hk, fb 98 (by omega) (by omega) (by omega)]) (rwA_O.mp s2)
  refine ⟨1, μb, μd, ?_, ?_, W, H, S, P, ⟨iR_fr (fun b hb2 => f b (by omega) (by omega) (by omega) (by omega) (by omega) (by omega) (by omega)) h.1, iT_fr (by rw [f 2 (by omega) (by omega) (by omega) (by omega) (by omega) (by omega) (by omega)]) (fd90 1 (by omega)) (f 3 (by omega) (by omega) (by omega) (by omega) (by omega) (by omega) (by omega)) (f 91 (by omega) (by omega) (by omega) (by omega) (by omega) (by omega) (by omega)) h.2.1, by rw [f1 11 (by omega), fd90 2 (by omega)]; exact h.2.2.1, iS_fr (f1 10 (by omega)) (fd90 16 (by omega)) h.2.2.2.1, iN_fr (f 4 (by omega) (by omega) (by omega) (by omega) (by omega) (by omega) (by omega)) (f 5 (by omega) (by omega) (by omega) (by omega) (by omega) (by omega) (by omega)) (f 6 (by omega) (by omega) (by omega) (by omega) (by omega) (by omega) (by omega)) (f 98 (by omega) (by omega) (by omega) (by omega) (by omega) (by omega) (by omega)) h.2.2.2.2.1, ?_, ?_, iW_fr (by rw [f 61 (by omega) (by omega) (by omega) (by omega) (by omega) (by omega) (by omega)]) (fd90 18 (by omega)) (f 62 (by omega) (by omega) (by omega) (by omega) (by omega) (by omega) (by omega)) (f 63 (by omega) (by omega) (by omega) (by omega) (by omega) (by omega) (by omega)) (f 104 (by omega) (by omega) (by omega) (by omega) (by omega) (by omega) (by omega)) h.2.2.2.2.2.2.2.1, iB_fr (by rw [f 66 (by omega) (by omega) (by omega) (by omega) (by omega) (by omega) (by omega)]) (fd90 20 (by omega)) (f 67 (by omega) (by omega) (by omega) (by omega) (by omega) (by omega) (by omega)) (f 68 (by omega) (by omega) (by omega) (by omega) (by omega) (by omega) (by omega)) (f 105 (by omega) (by omega) (by omega) (by omega) (by omega) (by omega) (by omega)) h.2.2.2.2.2.2.2.2⟩⟩
  · unfold fX8_keep
    rw [show fX8_imageAt sw μ 0 = some 70 from rfl, bd_some, if_neg (by omega), ic_ck, if_pos ⟨ob_img.1, by omega⟩, show fX1_copyFrom μ (70 + 1) 4 = fX1_copyFrom μ 71 4 from rfl, k1, bd_some, pu_e, pu_e, pu_e, m1r, r1, r2]
    have e9 : ic_up m1 70 1 (nI sd) 1 9 = bI b0 + 2 * bI b1 := by rw [ic_up_ne (by omega), m1r, q1]
    rw [e9, kb_or0, hb]
  · unfold fX9_keep
    have e16 : m2 90 16 = nI sd := by rw [j4 90 (by omega), fb 90 (by omega) (by omega) (by omega), r2]
    rw [in_e, bd_some, show wi (0 : Int32) 0 1 = true from by decide, bI_t, if_neg one_ne0, show fX9_copies μb 98 (0 : Int32) 101 ((28 : Int32) * 0) (28 : Int32) = fX9_copies μb 98 (nI 0) 101 (nI 0) (nI 28) from rfl, j1, bd_some, show ic_as m2 102 2 (0 : Int32) = ic_as m2 102 2 (nI 0) from rfl, as_n (by omega) (by omega), e16, show ∀ m : ic_M, ic_az m 103 2 (0 : Int32) = ic_az m 103 2 (nI 0) from fun _ => rfl, az_n (by omega) (by omega) (Or.inr rfl), pu_e, hd]
  · obtain ⟨n, nx, a1, a2, a3, a4, a5, a6⟩ := h.2.2.2.2.2.1
    refine ⟨0, nx, by omega, a2, ?_, ?_, ?_, fun j hj => absurd hj (by omega)⟩
    · rw [fd 7 (by omega) (by omega) (by omega) (by omega), ← hb, ic_up_eq, pk_us]; rfl
    · rw [fd 7 (by omega) (by omega) (by omega) (by omega), ← hb, ic_up_eq, pk_un (by omega), ic_up_ne (by omega), ic_up_ne (by omega), k3 7 (by omega) (by omega) (by omega)]; exact a4
    · rw [← hd, ic_up_eq, pk_us]; rfl
  · have e103 : ∀ k, μd 103 k = if k = 0 then 1 else μ 103 k := fun k => by
      rw [← hd, ic_up_ne (by omega), ic_up_eq]
      by_cases hk : k = 0
      · rw [if_pos hk, hk, pk_us]
      · rw [if_neg hk, pk_un hk, ic_up_ne (by omega), j4 103 (by omega), fb 103 (by omega) (by omega) (by omega)]
    have e102 : ∀ k, μd 102 k = if k = 0 then nI sd else μ 102 k := fun k => by
      rw [← hd, ic_up_ne (by omega), ic_up_ne (by omega), ic_up_eq]
      by_cases hk : k = 0
      · rw [if_pos hk, hk, pk_us]
      · rw [if_neg hk, pk_un hk, j4 102 (by omega), fb 102 (by omega) (by omega) (by omega)]
    have eim : μd 70 1 = nI sd := by rw [fd _ (by omega) (by omega) (by omega) (by omega), ← hb, ic_up_ne (by omega), ic_up_ne (by omega), ic_up_eq, pk_us]
    have e19 : μd 1 9 = bI true + 2 * bI b1 := by rw [fd 1 (by omega) (by omega) (by omega) (by omega), ← hb, ic_up_ne (by omega), ic_up_eq, pk_us]
    have eot : ∀ k, k < 28 → μd 101 (28 + k) = μ 101 (28 + k) := fun k hk => by
      rw [d101, j3 _ (by omega), fb 101 (by omega) (by omega) (by omega)]
    refine ⟨true, b1, e19, by rw [e103]; rfl, by rw [e103]; exact q3, ?_, ?_⟩
    · intro _
      refine ⟨E_of fim frw, gd_of hP hN frw s3, ?_, sd, hsd, ?_⟩
      · rw [eim, e102, if_pos rfl]
      · rw [e102, if_pos rfl]
    · intro ht
      obtain ⟨z1, z2, z3, z, z4, z5⟩ := q5 ht
      have i1 : icA μd 75 (stO μ 101 28) := icA_fr (f _ (by omega) (by omega) (by omega) (by omega) (by omega) (by omega) (by omega)) (f _ (by omega) (by omega) (by omega) (by omega) (by omega) (by omega) (by omega)) (f _ (by omega) (by omega) (by omega) (by omega) (by omega) (by omega) (by omega)) (E_to z1)
      have i2 : rwO μd 101 28 (stO μ 101 28) := rwO_cp (μ := μ) (r0 := 101) (x := 28) eot (stO_rw μ 101 28)
      refine ⟨E_of i1 i2, gd_of hP hN i2 (gd_to z2), ?_, z, z4, ?_⟩
      · rw [f 74 (by omega) (by omega) (by omega) (by omega) (by omega) (by omega) (by omega), e102, if_neg (by omega)]; exact z3
      · rw [e102, if_neg (by omega)]; exact z5

theorem keep_1 {sw : Nat} {μ : ic_M} (hI : ic_I sw μ) : ∃ (v : Int32) (μ1 : ic_M) (μ2 : ic_M), fX8_keep sw μ 1 = some (v, μ1) ∧ fX9_keep μ1 1 = some (v, μ2) ∧ ic_I sw μ2 := by
  obtain ⟨W, H, S, P, h⟩ := id hI
  have ho := h.1.1
  have hN := rOK_N ho
  have hP := rOK_P ho
  have hld := ld_hi sw
  obtain ⟨s, s1, s2, s3⟩ := iN_to h.2.2.2.2.1
  obtain ⟨b0, b1, q1, q2, q3, q4, q5⟩ := h.2.2.2.2.2.2.1
  obtain ⟨r1, sd, hsd, r2⟩ := h.2.2.2.1
  obtain ⟨m1, k1, k2, k3⟩ := c_copy (a := 75) (b := 4) (Or.inr (by omega)) s1
  have m1r : m1 1 = μ 1 := k3 1 (by omega) (by omega) (by omega)
  generalize hb : ic_up (ic_up (ic_up m1 74 1 (nI sd)) 1 9 (bI b0 + 2 * bI true)) 7 2 0 = μb
  have fb : ∀ b, b ≠ 1 → b ≠ 7 → ¬ (74 ≤ b ∧ b ≤ 75 + 2) → μb b = μ b := fun b h1 h2 h3 => by
    rw [← hb, ic_up_ne h2, ic_up_ne h1, ic_up_ne (by omega), k3 b (by omega) (by omega) (by omega)]
  have fb1 : ∀ k, k ≠ 9 → μb 1 k = μ 1 k := fun k hk => by
    rw [← hb, ic_up_ne (by omega), ic_up_eq, pk_un hk, ic_up_ne (by omega), m1r]
  obtain ⟨m2, j1, j2, j3, j4⟩ := m_copies (μ := μb) (r0 := 98) (r2 := 101) (x := 0) (y := 28) (n := 28) (by omega) (by rw [il_m.1]; omega) (by rw [il_m.2.2.2]; omega) (by rw [il_m.1]; omega) (by rw [il_m.2.2.2]; omega) (by omega)
  generalize hd : ic_up (ic_up (ic_up m2 102 1 (nI sd)) 103 1 1) 90 12 0 = μd
  have fd : ∀ b, b ≠ 90 → b ≠ 101 → b ≠ 102 → b ≠ 103 → μd b = μb b := fun b h1 h2 h3 h4 => by
    rw [← hd, ic_up_ne h1, ic_up_ne h4, ic_up_ne h3, j4 b h2]
  have fd90 : ∀ k, k ≠ 12 → μd 90 k = μ 90 k := fun k hk => by
    rw [← hd, ic_up_eq, pk_un hk, ic_up_ne (by omega), ic_up_ne (by omega), j4 90 (by omega), fb 90 (by omega) (by omega) (by omega)]
  have f : ∀ b, b ≠ 1 → b ≠ 7 → ¬ (74 ≤ b ∧ b ≤ 75 + 2) → b ≠ 90 → b ≠ 101 → b ≠ 102 → b ≠ 103 → μd b = μ b := fun b h1 h2 h3 h4 h5 h6 h7 => by rw [fd b h4 h5 h6 h7, fb b h1 h2 h3]
  have f1 : ∀ k, k ≠ 9 → μd 1 k = μ 1 k := fun k hk => by rw [fd 1 (by omega) (by omega) (by omega) (by omega), fb1 k hk]
  have fim : icA μd 75 s := icA_fr (by rw [fd _ (by omega) (by omega) (by omega) (by omega), ← hb, ic_up_ne (by omega), ic_up_ne (by omega), ic_up_ne (by omega)]) (by rw [fd _ (by omega) (by omega) (by omega) (by omega), ← hb, ic_up_ne (by omega), ic_up_ne (by omega), ic_up_ne (by omega)]) (by rw [fd _ (by omega) (by omega) (by omega) (by omega), ← hb, ic_up_ne (by omega), ic_up_ne (by omega), ic_up_ne (by omega)]) k2
  have d101 : μd 101 = m2 101 := by rw [← hd, ic_up_ne (by omega), ic_up_ne (by omega), ic_up_ne (by omega)]
  have frw : rwO μd 101 28 s := rwO_cp (μ := μ) (r0 := 98) (x := 0) (fun k hk => by rw [d101, j2 k hk, fb 98 (by omega) (by omega) (by omega)]) (rwA_O.mp s2)
  refine ⟨1, μb, μd, ?_, ?_, W, H, S, P, ⟨iR_fr (fun b hb2 => f b (by omega) (by omega) (by omega) (by omega) (by omega) (by omega) (by omega)) h.1, iT_fr (by rw [f 2 (by omega) (by omega) (by omega) (by omega) (by omega) (by omega) (by omega)]) (fd90 1 (by omega)) (f 3 (by omega) (by omega) (by omega) (by omega) (by omega) (by omega) (by omega)) (f 91 (by omega) (by omega) (by omega) (by omega) (by omega) (by omega) (by omega)) h.2.1, by rw [f1 11 (by omega), fd90 2 (by omega)]; exact h.2.2.1, iS_fr (f1 10 (by omega)) (fd90 16 (by omega)) h.2.2.2.1, iN_fr (f 4 (by omega) (by omega) (by omega) (by omega) (by omega) (by omega) (by omega)) (f 5 (by omega) (by omega) (by omega) (by omega) (by omega) (by omega) (by omega)) (f 6 (by omega) (by omega) (by omega) (by omega) (by omega) (by omega) (by omega)) (f 98 (by omega) (by omega) (by omega) (by omega) (by omega) (by omega) (by omega)) h.2.2.2.2.1, ?_, ?_, iW_fr (by rw [f 61 (by omega) (by omega) (by omega) (by omega) (by omega) (by omega) (by omega)]) (fd90 18 (by omega)) (f 62 (by omega) (by omega) (by omega) (by omega) (by omega) (by omega) (by omega)) (f 63 (by omega) (by omega) (by omega) (by omega) (by omega) (by omega) (by omega)) (f 104 (by omega) (by omega) (by omega) (by omega) (by omega) (by omega) (by omega)) h.2.2.2.2.2.2.2.1, iB_fr (by rw [f 66 (by omega) (by omega) (by omega) (by omega) (by omega) (by omega) (by omega)]) (fd90 20 (by omega)) (f 67 (by omega) (by omega) (by omega) (by omega) (by omega) (by omega) (by omega)) (f 68 (by omega) (by omega) (by omega) (by omega) (by omega) (by omega) (by omega)) (f 105 (by omega) (by omega) (by omega) (by omega) (by omega) (by omega) (by omega)) h.2.2.2.2.2.2.2.2⟩⟩
  · unfold fX8_keep
    rw [show fX8_imageAt sw μ 1 = some 74 from rfl, bd_some, if_neg (by omega), ic_ck, if_pos ⟨ob_img.2, by omega⟩, show fX1_copyFrom μ (74 + 1) 4 = fX1_copyFrom μ 75 4 from rfl, k1, bd_some, pu_e, pu_e, pu_e, m1r, r1, r2]
    have e9 : ic_up m1 74 1 (nI sd) 1 9 = bI b0 + 2 * bI b1 := by rw [ic_up_ne (by omega), m1r, q1]
    rw [e9, kb_or1, hb]
  · unfold fX9_keep
    have e16 : m2 90 16 = nI sd := by rw [j4 90 (by omega), fb 90 (by omega) (by omega) (by omega), r2]
    rw [in_e, bd_some, show wi (1 : Int32) 0 1 = true from by decide, bI_t, if_neg one_ne0, show fX9_copies μb 98 (0 : Int32) 101 ((28 : Int32) * 1) (28 : Int32) = fX9_copies μb 98 (nI 0) 101 (nI 28) (nI 28) from rfl, j1, bd_some, show ic_as m2 102 2 (1 : Int32) = ic_as m2 102 2 (nI 1) from rfl, as_n (by omega) (by omega), e16, show ∀ m : ic_M, ic_az m 103 2 (1 : Int32) = ic_az m 103 2 (nI 1) from fun _ => rfl, az_n (by omega) (by omega) (Or.inr rfl), pu_e, hd]
  · obtain ⟨n, nx, a1, a2, a3, a4, a5, a6⟩ := h.2.2.2.2.2.1
    refine ⟨0, nx, by omega, a2, ?_, ?_, ?_, fun j hj => absurd hj (by omega)⟩
    · rw [fd 7 (by omega) (by omega) (by omega) (by omega), ← hb, ic_up_eq, pk_us]; rfl
    · rw [fd 7 (by omega) (by omega) (by omega) (by omega), ← hb, ic_up_eq, pk_un (by omega), ic_up_ne (by omega), ic_up_ne (by omega), k3 7 (by omega) (by omega) (by omega)]; exact a4
    · rw [← hd, ic_up_eq, pk_us]; rfl
  · have e103 : ∀ k, μd 103 k = if k = 1 then 1 else μ 103 k := fun k => by
      rw [← hd, ic_up_ne (by omega), ic_up_eq]
      by_cases hk : k = 1
      · rw [if_pos hk, hk, pk_us]
      · rw [if_neg hk, pk_un hk, ic_up_ne (by omega), j4 103 (by omega), fb 103 (by omega) (by omega) (by omega)]
    have e102 : ∀ k, μd 102 k = if k = 1 then nI sd else μ 102 k := fun k => by
      rw [← hd, ic_up_ne (by omega), ic_up_ne (by omega), ic_up_eq]
      by_cases hk : k = 1
      · rw [if_pos hk, hk, pk_us]
      · rw [if_neg hk, pk_un hk, j4 102 (by omega), fb 102 (by omega) (by omega) (by omega)]
    have eim : μd 74 1 = nI sd := by rw [fd _ (by omega) (by omega) (by omega) (by omega), ← hb, ic_up_ne (by omega), ic_up_ne (by omega), ic_up_eq, pk_us]
    have e19 : μd 1 9 = bI b0 + 2 * bI true := by rw [fd 1 (by omega) (by omega) (by omega) (by omega), ← hb, ic_up_ne (by omega), ic_up_eq, pk_us]
    have eot : ∀ k, k < 28 → μd 101 (0 + k) = μ 101 (0 + k) := fun k hk => by
      rw [d101, j3 _ (by omega), fb 101 (by omega) (by omega) (by omega)]
    refine ⟨b0, true, e19, by rw [e103]; exact q2, by rw [e103]; rfl, ?_, ?_⟩
    · intro ht
      obtain ⟨z1, z2, z3, z, z4, z5⟩ := q4 ht
      have i1 : icA μd 71 (stO μ 101 0) := icA_fr (f _ (by omega) (by omega) (by omega) (by omega) (by omega) (by omega) (by omega)) (f _ (by omega) (by omega) (by omega) (by omega) (by omega) (by omega) (by omega)) (f _ (by omega) (by omega) (by omega) (by omega) (by omega) (by omega) (by omega)) (E_to z1)
      have i2 : rwO μd 101 0 (stO μ 101 0) := rwO_cp (μ := μ) (r0 := 101) (x := 0) eot (stO_rw μ 101 0)
      refine ⟨E_of i1 i2, gd_of hP hN i2 (gd_to z2), ?_, z, z4, ?_⟩
      · rw [f 70 (by omega) (by omega) (by omega) (by omega) (by omega) (by omega) (by omega), e102, if_neg (by omega)]; exact z3
      · rw [e102, if_neg (by omega)]; exact z5
    · intro _
      refine ⟨E_of fim frw, gd_of hP hN frw s3, ?_, sd, hsd, ?_⟩
      · rw [eim, e102, if_pos rfl]
      · rw [e102, if_pos rfl]

theorem pu_keep {sw : Nat} {μ : ic_M} (hI : ic_I sw μ) (a1 : Int32) : ∃ (v : Int32) (μ1 : ic_M) (μ2 : ic_M), fX8_keep sw μ a1 = some (v, μ1) ∧ fX9_keep μ1 a1 = some (v, μ2) ∧ ic_I sw μ2 := by
  cases hw : wi a1 0 1
  · refine ⟨-1000000001, μ, μ, ?_, ?_, hI⟩
    · unfold fX8_keep
      rw [img_out hw, bd_some, if_pos rfl]
    · unfold fX9_keep
      rw [in_e, bd_some, hw, bI_f, if_pos rfl]
  · obtain ⟨i, -, hi, rfl⟩ := (wi_n (a := 0) (b := 1) (by omega) (by omega)).mp hw
    have : i = 0 ∨ i = 1 := by omega
    rcases this with rfl | rfl
    · exact keep_0 hI
    · exact keep_1 hI
theorem back_0 {sw : Nat} {μ : ic_M} (hI : ic_I sw μ) : ∃ (v : Int32) (μ1 : ic_M) (μ2 : ic_M), fX8_goBack sw μ 0 = some (v, μ1) ∧ fX9_goBack μ1 0 = some (v, μ2) ∧ ic_I sw μ2 := by
  obtain ⟨W, H, S, P, h⟩ := id hI
  have ho := h.1.1
  have hN := rOK_N ho
  have hP := rOK_P ho
  obtain ⟨b0, b1, q1, q2, q3, q4, q5⟩ := h.2.2.2.2.2.2.1
  have hin : fX8_isIn μ (μ 1 9) 0 = some (bI b0) := by
    rw [q1]
    have := isIn_e μ (x := bI b0 + 2 * bI b1) (k := 0) (by omega)
    rw [kb_b0] at this
    exact this
  cases hb : b0
  · refine ⟨-1000000003, μ, μ, ?_, ?_, hI⟩
    · unfold fX8_goBack
      rw [show fX8_imageAt sw μ 0 = some 70 from rfl, bd_some, if_neg (by omega), hin, bd_some, hb, bI_f, if_pos rfl]
    · unfold fX9_goBack
      rw [in_e, bd_some, show wi (0 : Int32) 0 1 = true from by decide, bI_t, if_neg one_ne0, show ic_ag μ 103 2 (0 : Int32) = ic_ag μ 103 2 (nI 0) from rfl, ag_n (by omega) (by omega), q2, hb, bI_f, if_pos rfl]
  · obtain ⟨z1, z2, z3, z, z4, z5⟩ := q4 hb
    obtain ⟨m1, k1, k2, k3⟩ := c_copy (a := 4) (b := 71) (Or.inl (by omega)) (E_to z1)
    generalize hB : ic_up (ic_up m1 1 10 (nI z)) 7 2 0 = μb
    have fb : ∀ b, b ≠ 1 → b ≠ 7 → ¬ (4 ≤ b ∧ b ≤ 6) → μb b = μ b := fun b h1 h2 h3 => by
      rw [← hB, ic_up_ne h2, ic_up_ne h1, k3 b (by omega) (by omega) (by omega)]
    obtain ⟨m2, j1, j2, j3, j4⟩ := m_copies (μ := μb) (r0 := 101) (r2 := 98) (x := 0) (y := 0) (n := 28) (by omega) (by rw [il_m.2.2.2]; omega) (by rw [il_m.1]; omega) (by rw [il_m.2.2.2]; omega) (by rw [il_m.1]; omega) (by omega)
    generalize hd : ic_up (ic_up m2 90 16 (nI z)) 90 12 0 = μd
    have f : ∀ b, b ≠ 1 → b ≠ 7 → ¬ (4 ≤ b ∧ b ≤ 6) → b ≠ 90 → b ≠ 98 → μd b = μ b := fun b h1 h2 h3 h4 h5 => by
      rw [← hd, ic_up_ne h4, ic_up_ne h4, j4 b h5, fb b h1 h2 h3]
    have fbd : ∀ b, b ≠ 90 → b ≠ 98 → μd b = μb b := fun b h4 h5 => by rw [← hd, ic_up_ne h4, ic_up_ne h4, j4 b h5]
    refine ⟨1, μb, μd, ?_, ?_, W, H, S, P, J_fr h (fun b h1 h2 h3 h4 h5 h6 h7 => f b h1 (by omega) (by omega) h5 (by omega)) (fun k hk => ?_) (fun k h1 h2 => ?_) ⟨?_, z, z4, ?_⟩ (iN_of hP hN (icA_fr ?_ ?_ ?_ k2) (rwA_O.mpr (rwO_cp (μ := μ) (r0 := 101) (x := 0) (fun k hk => ?_) (stO_rw μ 101 0))) (gd_to z2)) ?_⟩
    · unfold fX8_goBack
      rw [show fX8_imageAt sw μ 0 = some 70 from rfl, bd_some, if_neg (by omega), hin, bd_some, hb, bI_t, if_neg one_ne0, ic_ck, if_pos ⟨ob_img.1, by omega⟩, show fX1_copyFrom μ 4 (70 + 1) = fX1_copyFrom μ 4 71 from rfl, k1, bd_some, pu_e, pu_e, k3 70 (by omega) (by omega) (by omega), z3, z5, hB]
    · unfold fX9_goBack
      rw [in_e, bd_some, show wi (0 : Int32) 0 1 = true from by decide, bI_t, if_neg one_ne0, show ic_ag μb 103 2 (0 : Int32) = ic_ag μb 103 2 (nI 0) from rfl, ag_n (by omega) (by omega), fb 103 (by omega) (by omega) (by omega), q2, hb, bI_t, if_neg one_ne0, show fX9_copies μb 101 ((28 : Int32) * 0) 98 (0 : Int32) (28 : Int32) = fX9_copies μb 101 (nI 0) 98 (nI 0) (nI 28) from rfl, j1, bd_some, show ic_ag m2 102 2 (0 : Int32) = ic_ag m2 102 2 (nI 0) from rfl, ag_n (by omega) (by omega), j4 102 (by omega), fb 102 (by omega) (by omega) (by omega), z5, pu_e, pu_e, hd]
    · rw [fbd 1 (by omega) (by omega), ← hB, ic_up_ne (by omega), ic_up_eq, pk_un hk, k3 1 (by omega) (by omega) (by omega)]
    · rw [← hd, ic_up_eq, pk_un h1, ic_up_eq, pk_un h2, j4 90 (by omega), fb 90 (by omega) (by omega) (by omega)]
    · rw [fbd 1 (by omega) (by omega), ← hB, ic_up_ne (by omega), ic_up_eq, pk_us, ← hd, ic_up_eq, pk_un (by omega), ic_up_eq, pk_us]
    · rw [← hd, ic_up_eq, pk_un (by omega), ic_up_eq, pk_us]
    · rw [fbd 4 (by omega) (by omega), ← hB, ic_up_ne (by omega), ic_up_ne (by omega)]
    · rw [fbd _ (by omega) (by omega), ← hB, ic_up_ne (by omega), ic_up_ne (by omega)]
    · rw [fbd _ (by omega) (by omega), ← hB, ic_up_ne (by omega), ic_up_ne (by omega)]
    · rw [← hd, ic_up_ne (by omega), ic_up_ne (by omega), j2 k hk, fb 101 (by omega) (by omega) (by omega)]
    · obtain ⟨n, nx, a1, a2, a3, a4, a5, a6⟩ := h.2.2.2.2.2.1
      refine ⟨0, nx, by omega, a2, ?_, ?_, ?_, fun j hj => absurd hj (by omega)⟩
      · rw [fbd 7 (by omega) (by omega), ← hB, ic_up_eq, pk_us]; rfl
      · rw [fbd 7 (by omega) (by omega), ← hB, ic_up_eq, pk_un (by omega), ic_up_ne (by omega), k3 7 (by omega) (by omega) (by omega)]; exact a4
      · rw [← hd, ic_up_eq, pk_us]; rfl
theorem back_1 {sw : Nat} {μ : ic_M} (hI : ic_I sw μ) : ∃ (v : Int32) (μ1 : ic_M) (μ2 : ic_M), fX8_goBack sw μ 1 = some (v, μ1) ∧ fX9_goBack μ1 1 = some (v, μ2) ∧ ic_I sw μ2 := by
  obtain ⟨W, H, S, P, h⟩ := id hI
  have ho := h.1.1
  have hN := rOK_N ho
  have hP := rOK_P ho
  obtain ⟨b0, b1, q1, q2, q3, q4, q5⟩ := h.2.2.2.2.2.2.1
  have hin : fX8_isIn μ (μ 1 9) 1 = some (bI b1) := by
    rw [q1]
    have := isIn_e μ (x := bI b0 + 2 * bI b1) (k := 1) (by omega)
    rw [kb_b1] at this
    exact this
  cases hb : b1
  · refine ⟨-1000000003, μ, μ, ?_, ?_, hI⟩
    · unfold fX8_goBack
      rw [show fX8_imageAt sw μ 1 = some 74 from rfl, bd_some, if_neg (by omega), hin, bd_some, hb, bI_f, if_pos rfl]
    · unfold fX9_goBack
      rw [in_e, bd_some, show wi (1 : Int32) 0 1 = true from by decide, bI_t, if_neg one_ne0, show ic_ag μ 103 2 (1 : Int32) = ic_ag μ 103 2 (nI 1) from rfl, ag_n (by omega) (by omega), q3, hb, bI_f, if_pos rfl]
  · obtain ⟨z1, z2, z3, z, z4, z5⟩ := q5 hb
    obtain ⟨m1, k1, k2, k3⟩ := c_copy (a := 4) (b := 75) (Or.inl (by omega)) (E_to z1)
    generalize hB : ic_up (ic_up m1 1 10 (nI z)) 7 2 0 = μb
    have fb : ∀ b, b ≠ 1 → b ≠ 7 → ¬ (4 ≤ b ∧ b ≤ 6) → μb b = μ b := fun b h1 h2 h3 => by
      rw [← hB, ic_up_ne h2, ic_up_ne h1, k3 b (by omega) (by omega) (by omega)]
    obtain ⟨m2, j1, j2, j3, j4⟩ := m_copies (μ := μb) (r0 := 101) (r2 := 98) (x := 28) (y := 0) (n := 28) (by omega) (by rw [il_m.2.2.2]; omega) (by rw [il_m.1]; omega) (by rw [il_m.2.2.2]; omega) (by rw [il_m.1]; omega) (by omega)
    generalize hd : ic_up (ic_up m2 90 16 (nI z)) 90 12 0 = μd
    have f : ∀ b, b ≠ 1 → b ≠ 7 → ¬ (4 ≤ b ∧ b ≤ 6) → b ≠ 90 → b ≠ 98 → μd b = μ b := fun b h1 h2 h3 h4 h5 => by
      rw [← hd, ic_up_ne h4, ic_up_ne h4, j4 b h5, fb b h1 h2 h3]
    have fbd : ∀ b, b ≠ 90 → b ≠ 98 → μd b = μb b := fun b h4 h5 => by rw [← hd, ic_up_ne h4, ic_up_ne h4, j4 b h5]
    refine ⟨1, μb, μd, ?_, ?_, W, H, S, P, J_fr h (fun b h1 h2 h3 h4 h5 h6 h7 => f b h1 (by omega) (by omega) h5 (by omega)) (fun k hk => ?_) (fun k h1 h2 => ?_) ⟨?_, z, z4, ?_⟩ (iN_of hP hN (icA_fr ?_ ?_ ?_ k2) (rwA_O.mpr (rwO_cp (μ := μ) (r0 := 101) (x := 28) (fun k hk => ?_) (stO_rw μ 101 28))) (gd_to z2)) ?_⟩
    · unfold fX8_goBack
      rw [show fX8_imageAt sw μ 1 = some 74 from rfl, bd_some, if_neg (by omega), hin, bd_some, hb, bI_t, if_neg one_ne0, ic_ck, if_pos ⟨ob_img.2, by omega⟩, show fX1_copyFrom μ 4 (74 + 1) = fX1_copyFrom μ 4 75 from rfl, k1, bd_some, pu_e, pu_e, k3 74 (by omega) (by omega) (by omega), z3, z5, hB]
    · unfold fX9_goBack
      rw [in_e, bd_some, show wi (1 : Int32) 0 1 = true from by decide, bI_t, if_neg one_ne0, show ic_ag μb 103 2 (1 : Int32) = ic_ag μb 103 2 (nI 1) from rfl, ag_n (by omega) (by omega), fb 103 (by omega) (by omega) (by omega), q3, hb, bI_t, if_neg one_ne0, show fX9_copies μb 101 ((28 : Int32) * 1) 98 (0 : Int32) (28 : Int32) = fX9_copies μb 101 (nI 28) 98 (nI 0) (nI 28) from rfl, j1, bd_some, show ic_ag m2 102 2 (1 : Int32) = ic_ag m2 102 2 (nI 1) from rfl, ag_n (by omega) (by omega), j4 102 (by omega), fb 102 (by omega) (by omega) (by omega), z5, pu_e, pu_e, hd]
    · rw [fbd 1 (by omega) (by omega), ← hB, ic_up_ne (by omega), ic_up_eq, pk_un hk, k3 1 (by omega) (by omega) (by omega)]
    · rw [← hd, ic_up_eq, pk_un h1, ic_up_eq, pk_un h2, j4 90 (by omega), fb 90 (by omega) (by omega) (by omega)]
    · rw [fbd 1 (by omega) (by omega), ← hB, ic_up_ne (by omega), ic_up_eq, pk_us, ← hd, ic_up_eq, pk_un (by omega), ic_up_eq, pk_us]
    · rw [← hd, ic_up_eq, pk_un (by omega), ic_up_eq, pk_us]
    · rw [fbd 4 (by omega) (by omega), ← hB, ic_up_ne (by omega), ic_up_ne (by omega)]
    · rw [fbd _ (by omega) (by omega), ← hB, ic_up_ne (by omega), ic_up_ne (by omega)]
    · rw [fbd _ (by omega) (by omega), ← hB, ic_up_ne (by omega), ic_up_ne (by omega)]
    · rw [← hd, ic_up_ne (by omega), ic_up_ne (by omega), j2 k hk, fb 101 (by omega) (by omega) (by omega)]
    · obtain ⟨n, nx, a1, a2, a3, a4, a5, a6⟩ := h.2.2.2.2.2.1
      refine ⟨0, nx, by omega, a2, ?_, ?_, ?_, fun j hj => absurd hj (by omega)⟩
      · rw [fbd 7 (by omega) (by omega), ← hB, ic_up_eq, pk_us]; rfl
      · rw [fbd 7 (by omega) (by omega), ← hB, ic_up_eq, pk_un (by omega), ic_up_ne (by omega), k3 7 (by omega) (by omega) (by omega)]; exact a4
      · rw [← hd, ic_up_eq, pk_us]; rfl
theorem pu_goBack {sw : Nat} {μ : ic_M} (hI : ic_I sw μ) (a1 : Int32) : ∃ (v : Int32) (μ1 : ic_M) (μ2 : ic_M), fX8_goBack sw μ a1 = some (v, μ1) ∧ fX9_goBack μ1 a1 = some (v, μ2) ∧ ic_I sw μ2 := by
  cases hw : wi a1 0 1
  · refine ⟨-1000000001, μ, μ, ?_, ?_, hI⟩
    · unfold fX8_goBack
      rw [img_out hw, bd_some, if_pos rfl]
    · unfold fX9_goBack
      rw [in_e, bd_some, hw, bI_f, if_pos rfl]
  · obtain ⟨i, -, hi, rfl⟩ := (wi_n (a := 0) (b := 1) (by omega) (by omega)).mp hw
    have : i = 0 ∨ i = 1 := by omega
    rcases this with rfl | rfl
    · exact back_0 hI
    · exact back_1 hI
