/-! ===== the plain calls ===== -/
theorem ld_hi (sw : Nat) : 78 ≤ ic_ld sw ∧ ic_ld sw ≤ 84 := by rcases ic_ld_or sw with h | h <;> omega
theorem one_ne0 : ¬ (1 : Int32) = 0 := by decide
/-- a cell that there is, a person that there is -/
def isC (N : Nat) (x : Int32) : Bool := decide (¬ x < 0) && decide (¬ nI N ≤ x)
theorem isC_t {N : Nat} {x : Int32} (hN : N < 2 ^ 31) : isC N x = true ↔ ∃ c, c < N ∧ x = nI c := by
  unfold isC
  simp only [Bool.and_eq_true, decide_eq_true_eq]
  constructor
  · rintro ⟨h1, h2⟩
    obtain ⟨k, hk, rfl⟩ := nI_of h1
    rw [nI_leI hN hk] at h2
    exact ⟨k, by omega, rfl⟩
  · rintro ⟨c, hc, rfl⟩
    exact ⟨nI_pos (by omega), nI_ge hc hN⟩
theorem wi_isC {N : Nat} {x : Int32} (hN : N ≤ 18) : wi x 0 (nI N - 1) = isC N x := by
  unfold wi isC
  by_cases h : x < 0
  · simp [h]
  · obtain ⟨k, hk, rfl⟩ := nI_of h
    have e : (nI N - 1 < nI k) ↔ (nI N ≤ nI k) := by
      rw [nI_leI (by omega) hk, Int32.lt_iff_toInt_lt, show nI N - 1 = nI N - nI 1 from rfl, pk_sub_toInt (by omega) (by omega), nI_toInt hk]
      omega
    simp only [e]
theorem c_isCell {sw : Nat} {μ : ic_M} {N : Nat} {x : Int32} (h : μ (ic_ld sw) 11 = nI N) : fX8_isCell sw μ x = some (bI (isC N x)) := by
  unfold fX8_isCell isC
  rw [h]
  by_cases h1 : x < 0
  · simp [h1, bd_some, rz_0, bI]
  · by_cases h2 : nI N ≤ x
    · simp [h1, h2, bd_some, rz_0, bI]
    · simp [h1, h2, bd_some, rz_1, bI]
theorem c_isPerson {sw : Nat} {μ : ic_M} {N : Nat} {x : Int32} (h : μ (ic_ld sw) 12 = nI N) : fX8_isPerson sw μ x = some (bI (isC N x)) := by
  unfold fX8_isPerson isC
  rw [h]
  by_cases h1 : x < 0
  · simp [h1, bd_some, rz_0, bI]
  · by_cases h2 : nI N ≤ x
    · simp [h1, h2, bd_some, rz_0, bI]
    · simp [h1, h2, bd_some, rz_1, bI]
theorem m_isCell {μ : ic_M} {W H S P : Nat} {x : Int32} (hm : mR μ W H S P) (ho : rOK W H S P) : fX9_isCell μ x = some (bI (isC (W * H) x)) := by
  unfold fX9_isCell
  rw [m_cells hm, bd_some, in_e, bd_some, rz_b, wi_isC (rOK_N ho)]
theorem m_isPerson {μ : ic_M} {W H S P : Nat} {x : Int32} (hm : mR μ W H S P) (ho : rOK W H S P) : fX9_isPerson μ x = some (bI (isC P x)) := by
  unfold fX9_isPerson
  rw [show ic_ag μ 92 7 (3 : Int32) = ic_ag μ 92 7 (nI 3) from rfl, m_ag92 (by omega), hm.2.2.2, in_e, bd_some, rz_b, wi_isC (by have := rOK_P ho; omega)]
theorem m_isRiver {μ : ic_M} {W H S P : Nat} (hm : mR μ W H S P) (ho : rOK W H S P) : fX9_isRiver μ = some (bI (decide (¬ W = 0))) := by
  unfold fX9_isRiver
  have hW : W < 2 ^ 31 := by rcases ho with h | h <;> omega
  rw [show ic_ag μ 92 7 (0 : Int32) = ic_ag μ 92 7 (nI 0) from rfl, m_ag92 (by omega), hm.1]
  by_cases h : W = 0
  · subst h
    simp [nI_0, bd_some, rz_0, bI]
  · rw [if_neg (nI_nle (by omega) hW)]
    simp [h, bd_some, rz_1, bI]
theorem c_noRiver {sw : Nat} {μ : ic_M} {W H S P : Nat} (hr : cR μ (ic_ld sw) W H S P) (ho : rOK W H S P) : fX8_isNoRiver sw μ = some (bI (decide (W = 0))) := by
  unfold fX8_isNoRiver
  rw [hr.2.2.2.1]
  rcases ho with ⟨h1, h2, h3, h4, -⟩ | ⟨rfl, rfl, -⟩
  · have := (rivY_le ⟨h1, h2, h3, h4⟩)
    rw [if_neg (nI_ne0 (by omega) (by omega))]
    simp [show ¬ W = 0 by omega, bd_some, rz_0, bI]
  · simp [nI_0, bd_some, rz_1, bI]
theorem pu_fault {sw : Nat} {μ : ic_M} (hI : ic_I sw μ) : ∃ (v : Int32), fX8_fault sw μ = some v ∧ fX9_fault μ = some v ∧ ic_I sw μ := by
  obtain ⟨W, H, S, P, h⟩ := id hI
  exact ⟨μ 90 2, by rw [fX8_fault, h.2.2.1], rfl, hI⟩
theorem pu_seed {sw : Nat} {μ : ic_M} (hI : ic_I sw μ) (a1 : Int32) : ∃ (v : Int32) (μ1 : ic_M) (μ2 : ic_M), fX8_seed sw μ a1 = some (v, μ1) ∧ fX9_seed μ1 a1 = some (v, μ2) ∧ ic_I sw μ2 := by
  obtain ⟨W, H, S, P, h⟩ := id hI
  have hl := ld_hi sw
  unfold fX8_seed fX9_seed
  by_cases h0 : 0 ≤ a1
  · refine ⟨μ 90 16, ic_up μ 1 10 a1, ic_up (ic_up μ 1 10 a1) 90 16 a1, ?_, ?_, W, H, S, P, ⟨iR_fr (fun b hb => by rw [ic_up_ne (by omega), ic_up_ne (by omega)]) h.1, iT_fr (by simp [ic_up]) (by simp [ic_up]) (by rw [ic_up_ne (by omega), ic_up_ne (by omega)]) (by rw [ic_up_ne (by omega), ic_up_ne (by omega)]) h.2.1, (by simp only [ic_up]; simpa using h.2.2.1), ?_, iN_fr (by rw [ic_up_ne (by omega), ic_up_ne (by omega)]) (by rw [ic_up_ne (by omega), ic_up_ne (by omega)]) (by rw [ic_up_ne (by omega), ic_up_ne (by omega)]) (by rw [ic_up_ne (by omega), ic_up_ne (by omega)]) h.2.2.2.2.1, iP_fr (by simp [ic_up]) (by simp [ic_up]) (by simp [ic_up]) (fun b h1 h2 => by rw [ic_up_ne (by omega), ic_up_ne (by omega)]) (by rw [ic_up_ne (by omega), ic_up_ne (by omega)]) h.2.2.2.2.2.1, iK_fr (by simp [ic_up]) (fun b h1 h2 => by rw [ic_up_ne (by omega), ic_up_ne (by omega)]) (by rw [ic_up_ne (by omega), ic_up_ne (by omega)]) (by rw [ic_up_ne (by omega), ic_up_ne (by omega)]) (by rw [ic_up_ne (by omega), ic_up_ne (by omega)]) h.2.2.2.2.2.2.1, iW_fr (by simp [ic_up]) (by simp [ic_up]) (by rw [ic_up_ne (by omega), ic_up_ne (by omega)]) (by rw [ic_up_ne (by omega), ic_up_ne (by omega)]) (by rw [ic_up_ne (by omega), ic_up_ne (by omega)]) h.2.2.2.2.2.2.2.1, iB_fr (by simp [ic_up]) (by simp [ic_up]) (by rw [ic_up_ne (by omega), ic_up_ne (by omega)]) (by rw [ic_up_ne (by omega), ic_up_ne (by omega)]) (by rw [ic_up_ne (by omega), ic_up_ne (by omega)]) h.2.2.2.2.2.2.2.2⟩⟩
    · rw [if_pos h0, lt_e, pu_e, h.2.2.2.1.1]
    · rw [if_pos h0, lt_e, pu_e]; simp [ic_up]
    · have h1 : ¬ a1 < 0 := by rw [Int32.lt_iff_toInt_lt]; rw [Int32.le_iff_toInt_le] at h0; omega
      obtain ⟨k, hk, rfl⟩ := nI_of h1
      exact ⟨by simp [ic_up], k, hk, by simp [ic_up]⟩
  · exact ⟨-1000000002, μ, μ, by rw [if_neg h0], by rw [if_neg h0], hI⟩
theorem pu_tear {sw : Nat} {μ : ic_M} (hI : ic_I sw μ) : ∃ (v : Int32) (μ1 : ic_M) (μ2 : ic_M), fX8_tear sw μ = some (v, μ1) ∧ fX9_tear μ1 = some (v, μ2) ∧ ic_I sw μ2 := by
  obtain ⟨W, H, S, P, h⟩ := id hI
  have hl := ld_hi sw
  obtain ⟨n, n1, n2, n3, -⟩ := h.2.2.2.2.2.2.2.1
  obtain ⟨k, k1, k2, k3, -⟩ := h.2.2.2.2.2.2.2.2
  refine ⟨nI n + nI k, ic_up (ic_up μ 61 4 0) 66 2 0, ic_up (ic_up (ic_up (ic_up μ 61 4 0) 66 2 0) 90 18 0) 90 20 0, ?_, ?_, W, H, S, P, ⟨iR_fr (fun b hb => by rw [ic_up_ne (by omega), ic_up_ne (by omega), ic_up_ne (by omega), ic_up_ne (by omega)]) h.1, iT_fr (by simp [ic_up]) (by simp [ic_up]) (by rw [ic_up_ne (by omega), ic_up_ne (by omega), ic_up_ne (by omega), ic_up_ne (by omega)]) (by rw [ic_up_ne (by omega), ic_up_ne (by omega), ic_up_ne (by omega), ic_up_ne (by omega)]) h.2.1, (by simp only [ic_up]; simpa using h.2.2.1), iS_fr (by simp [ic_up]) (by simp [ic_up]) h.2.2.2.1, iN_fr (by rw [ic_up_ne (by omega), ic_up_ne (by omega), ic_up_ne (by omega), ic_up_ne (by omega)]) (by rw [ic_up_ne (by omega), ic_up_ne (by omega), ic_up_ne (by omega), ic_up_ne (by omega)]) (by rw [ic_up_ne (by omega), ic_up_ne (by omega), ic_up_ne (by omega), ic_up_ne (by omega)]) (by rw [ic_up_ne (by omega), ic_up_ne (by omega), ic_up_ne (by omega), ic_up_ne (by omega)]) h.2.2.2.2.1, iP_fr (by simp [ic_up]) (by simp [ic_up]) (by simp [ic_up]) (fun b h1 h2 => by rw [ic_up_ne (by omega), ic_up_ne (by omega), ic_up_ne (by omega), ic_up_ne (by omega)]) (by rw [ic_up_ne (by omega), ic_up_ne (by omega), ic_up_ne (by omega), ic_up_ne (by omega)]) h.2.2.2.2.2.1, iK_fr (by simp [ic_up]) (fun b h1 h2 => by rw [ic_up_ne (by omega), ic_up_ne (by omega), ic_up_ne (by omega), ic_up_ne (by omega)]) (by rw [ic_up_ne (by omega), ic_up_ne (by omega), ic_up_ne (by omega), ic_up_ne (by omega)]) (by rw [ic_up_ne (by omega), ic_up_ne (by omega), ic_up_ne (by omega), ic_up_ne (by omega)]) (by rw [ic_up_ne (by omega), ic_up_ne (by omega), ic_up_ne (by omega), ic_up_ne (by omega)]) h.2.2.2.2.2.2.1, ?_, ?_⟩⟩
  · unfold fX8_tear
    rw [lt_e, pu_e, pu_e, n2, k2]
  · unfold fX9_tear
    rw [lt_e, pu_e, pu_e]
    simp [ic_up, n3, k3]
  · exact ⟨0, by omega, by simp [ic_up]; rfl, by simp [ic_up]; rfl, fun j hj => absurd hj (by omega)⟩
  · exact ⟨0, by omega, by simp [ic_up]; rfl, by simp [ic_up]; rfl, fun j hj => absurd hj (by omega)⟩
theorem pu_feed {sw : Nat} {μ : ic_M} (hI : ic_I sw μ) (a1 : Int32) : ∃ (v : Int32) (μ1 : ic_M) (μ2 : ic_M), fX8_feed sw μ a1 = some (v, μ1) ∧ fX9_feed μ1 a1 = some (v, μ2) ∧ ic_I sw μ2 := by
  obtain ⟨W, H, S, P, h⟩ := id hI
  have hl := ld_hi sw
  obtain ⟨n, n1, n2, n3, n4⟩ := h.2.1
  unfold fX8_feed fX9_feed
  cases hw : wi a1 0 255
  · refine ⟨-1000000002, μ, μ, ?_, ?_, hI⟩
    · rw [wi_e, bd_some, hw, bI_f, if_pos rfl]
    · rw [in_e, bd_some, hw, bI_f, if_pos rfl]
  · obtain ⟨t, -, ht, rfl⟩ := (wi_n (a := 0) (b := 255) (by omega) (by omega)).mp hw
    by_cases hn : n = 240
    · subst hn
      refine ⟨-1000000004, μ, μ, ?_, ?_, hI⟩
      · rw [wi_e, bd_some, hw, bI_t, if_neg (by decide), fX4_add, n2, if_neg (by decide), if_neg (by decide), rz_0, bd_some]
        rfl
      · rw [in_e, bd_some, hw, bI_t, if_neg (by decide), n3, if_pos (by decide)]
    · refine ⟨nI (n + 1), ic_up (ic_up μ 3 n (nI t)) 2 2 (nI (n + 1)), ic_up (ic_up (ic_up (ic_up μ 3 n (nI t)) 2 2 (nI (n + 1))) 91 n (nI t)) 90 1 (nI (n + 1)), ?_, ?_, W, H, S, P, ⟨iR_fr (fun b hb => by rw [ic_up_ne (by omega), ic_up_ne (by omega), ic_up_ne (by omega), ic_up_ne (by omega)]) h.1, ?_, (by simp only [ic_up]; simpa using h.2.2.1), iS_fr (by simp [ic_up]) (by simp [ic_up]) h.2.2.2.1, iN_fr (by rw [ic_up_ne (by omega), ic_up_ne (by omega), ic_up_ne (by omega), ic_up_ne (by omega)]) (by rw [ic_up_ne (by omega), ic_up_ne (by omega), ic_up_ne (by omega), ic_up_ne (by omega)]) (by rw [ic_up_ne (by omega), ic_up_ne (by omega), ic_up_ne (by omega), ic_up_ne (by omega)]) (by rw [ic_up_ne (by omega), ic_up_ne (by omega), ic_up_ne (by omega), ic_up_ne (by omega)]) h.2.2.2.2.1, iP_fr (by simp [ic_up]) (by simp [ic_up]) (by simp [ic_up]) (fun b h1 h2 => by rw [ic_up_ne (by omega), ic_up_ne (by omega), ic_up_ne (by omega), ic_up_ne (by omega)]) (by rw [ic_up_ne (by omega), ic_up_ne (by omega), ic_up_ne (by omega), ic_up_ne (by omega)]) h.2.2.2.2.2.1, iK_fr (by simp [ic_up]) (fun b h1 h2 => by rw [ic_up_ne (by omega), ic_up_ne (by omega), ic_up_ne (by omega), ic_up_ne (by omega)]) (by rw [ic_up_ne (by omega), ic_up_ne (by omega), ic_up_ne (by omega), ic_up_ne (by omega)]) (by rw [ic_up_ne (by omega), ic_up_ne (by omega), ic_up_ne (by omega), ic_up_ne (by omega)]) (by rw [ic_up_ne (by omega), ic_up_ne (by omega), ic_up_ne (by omega), ic_up_ne (by omega)]) h.2.2.2.2.2.2.1, iW_fr (by simp [ic_up]) (by simp [ic_up]) (by rw [ic_up_ne (by omega), ic_up_ne (by omega), ic_up_ne (by omega), ic_up_ne (by omega)]) (by rw [ic_up_ne (by omega), ic_up_ne (by omega), ic_up_ne (by omega), ic_up_ne (by omega)]) (by rw [ic_up_ne (by omega), ic_up_ne (by omega), ic_up_ne (by omega), ic_up_ne (by omega)]) h.2.2.2.2.2.2.2.1, iB_fr (by simp [ic_up]) (by simp [ic_up]) (by rw [ic_up_ne (by omega), ic_up_ne (by omega), ic_up_ne (by omega), ic_up_ne (by omega)]) (by rw [ic_up_ne (by omega), ic_up_ne (by omega), ic_up_ne (by omega), ic_up_ne (by omega)]) (by rw [ic_up_ne (by omega), ic_up_ne (by omega), ic_up_ne (by omega), ic_up_ne (by omega)]) h.2.2.2.2.2.2.2.2⟩⟩
      · rw [wi_e, bd_some, hw, bI_t, if_neg (by decide), fX4_add, n2, if_neg (nI_pos (by omega)), if_pos (show nI n < (240 : Int32) from nI_lt (a := n) (b := 240) (by omega) (by omega)), as_n (by omega) (by omega), pu_e, rz_1, bd_some, if_neg (by exact one_ne0), bd_some]
        have e : ic_up μ 3 n (nI t) 2 2 = nI n := by simp [ic_up, n2]
        rw [e, nI_1]
        simp [ic_up]
      · have e1 : ic_up (ic_up μ 3 n (nI t)) 2 2 (nI (n + 1)) 90 1 = nI n := by simp [ic_up, n3]
        rw [in_e, bd_some, hw, bI_t, if_neg (by decide), e1, if_neg (show ¬ nI n = (240 : Int32) from fun e => hn ((nI_eq (b := 240) (by omega) (by omega)).mp e)), as_n (by omega) (by omega), pu_e]
        have e2 : ic_up (ic_up (ic_up μ 3 n (nI t)) 2 2 (nI (n + 1))) 91 n (nI t) 90 1 = nI n := by simp [ic_up, n3]
        rw [e2, nI_1]
        simp [ic_up]
      · refine ⟨n + 1, by omega, by simp [ic_up], by simp [ic_up], fun j hj => ?_⟩
        by_cases hjn : j = n
        · subst hjn
          exact ⟨by simp [ic_up], t, ht, by simp [ic_up]⟩
        · obtain ⟨e1, t', ht', e2⟩ := n4 j (by omega)
          exact ⟨by simp [ic_up, hjn, e1], t', ht', by simp [ic_up, hjn, e2]⟩
theorem pu_see {sw : Nat} {μ : ic_M} (hI : ic_I sw μ) (a1 a2 : Int32) (h2 : a2 = 0 ∨ a2 = 1) : ∃ (v : Int32) (μ1 : ic_M) (μ2 : ic_M), fX8_see sw μ a1 a2 = some (v, μ1) ∧ fX9_see μ1 a1 a2 = some (v, μ2) ∧ ic_I sw μ2 := by
  obtain ⟨W, H, S, P, h⟩ := id hI
  have hl := ld_hi sw
  obtain ⟨n, n1, n2, n3, n4⟩ := h.2.2.2.2.2.2.2.1
  unfold fX8_see fX9_see
  cases hw : wi a1 1 60
  · refine ⟨-1000000002, μ, μ, ?_, ?_, hI⟩
    · rw [wi_e, bd_some, hw, bI_f, if_pos rfl]
    · rw [in_e, bd_some, hw, bI_f, if_pos rfl]
  · obtain ⟨t, ht1, ht, rfl⟩ := (wi_n (a := 1) (b := 60) (by omega) (by omega)).mp hw
    by_cases hn : n = 6
    · subst hn
      refine ⟨-1000000004, μ, μ, ?_, ?_, hI⟩
      · rw [wi_e, bd_some, hw, bI_t, if_neg (by decide), fX6_add, n2, if_neg (by decide), if_pos (by decide), rz_0, bd_some]
        rfl
      · rw [in_e, bd_some, hw, bI_t, if_neg (by decide), n3, if_pos (by decide)]
    · refine ⟨nI (n + 1), ic_up (ic_up (ic_up μ 62 n (nI t)) 63 n a2) 61 4 (nI (n + 1)), ic_up (ic_up (ic_up (ic_up (ic_up (ic_up μ 62 n (nI t)) 63 n a2) 61 4 (nI (n + 1))) 104 (2 * n) (nI t)) 104 (2 * n + 1) a2) 90 18 (nI (n + 1)), ?_, ?_, W, H, S, P, ⟨iR_fr (fun b hb => by rw [ic_up_ne (by omega), ic_up_ne (by omega), ic_up_ne (by omega), ic_up_ne (by omega), ic_up_ne (by omega), ic_up_ne (by omega)]) h.1, iT_fr (by simp [ic_up]) (by simp [ic_up]) (by rw [ic_up_ne (by omega), ic_up_ne (by omega), ic_up_ne (by omega), ic_up_ne (by omega), ic_up_ne (by omega), ic_up_ne (by omega)]) (by rw [ic_up_ne (by omega), ic_up_ne (by omega), ic_up_ne (by omega), ic_up_ne (by omega), ic_up_ne (by omega), ic_up_ne (by omega)]) h.2.1, (by simp only [ic_up]; simpa using h.2.2.1), iS_fr (by simp [ic_up]) (by simp [ic_up]) h.2.2.2.1, iN_fr (by rw [ic_up_ne (by omega), ic_up_ne (by omega), ic_up_ne (by omega), ic_up_ne (by omega), ic_up_ne (by omega), ic_up_ne (by omega)]) (by rw [ic_up_ne (by omega), ic_up_ne (by omega), ic_up_ne (by omega), ic_up_ne (by omega), ic_up_ne (by omega), ic_up_ne (by omega)]) (by rw [ic_up_ne (by omega), ic_up_ne (by omega), ic_up_ne (by omega), ic_up_ne (by omega), ic_up_ne (by omega), ic_up_ne (by omega)]) (by rw [ic_up_ne (by omega), ic_up_ne (by omega), ic_up_ne (by omega), ic_up_ne (by omega), ic_up_ne (by omega), ic_up_ne (by omega)]) h.2.2.2.2.1, iP_fr (by simp [ic_up]) (by simp [ic_up]) (by simp [ic_up]) (fun b h1 h2 => by rw [ic_up_ne (by omega), ic_up_ne (by omega), ic_up_ne (by omega), ic_up_ne (by omega), ic_up_ne (by omega), ic_up_ne (by omega)]) (by rw [ic_up_ne (by omega), ic_up_ne (by omega), ic_up_ne (by omega), ic_up_ne (by omega), ic_up_ne (by omega), ic_up_ne (by omega)]) h.2.2.2.2.2.1, iK_fr (by simp [ic_up]) (fun b h1 h2 => by rw [ic_up_ne (by omega), ic_up_ne (by omega), ic_up_ne (by omega), ic_up_ne (by omega), ic_up_ne (by omega), ic_up_ne (by omega)]) (by rw [ic_up_ne (by omega), ic_up_ne (by omega), ic_up_ne (by omega), ic_up_ne (by omega), ic_up_ne (by omega), ic_up_ne (by omega)]) (by rw [ic_up_ne (by omega), ic_up_ne (by omega), ic_up_ne (by omega), ic_up_ne (by omega), ic_up_ne (by omega), ic_up_ne (by omega)]) (by rw [ic_up_ne (by omega), ic_up_ne (by omega), ic_up_ne (by omega), ic_up_ne (by omega), ic_up_ne (by omega), ic_up_ne (by omega)]) h.2.2.2.2.2.2.1, ?_, iB_fr (by simp [ic_up]) (by simp [ic_up]) (by rw [ic_up_ne (by omega), ic_up_ne (by omega), ic_up_ne (by omega), ic_up_ne (by omega), ic_up_ne (by omega), ic_up_ne (by omega)]) (by rw [ic_up_ne (by omega), ic_up_ne (by omega), ic_up_ne (by omega), ic_up_ne (by omega), ic_up_ne (by omega), ic_up_ne (by omega)]) (by rw [ic_up_ne (by omega), ic_up_ne (by omega), ic_up_ne (by omega), ic_up_ne (by omega), ic_up_ne (by omega), ic_up_ne (by omega)]) h.2.2.2.2.2.2.2.2⟩⟩
      · rw [wi_e, bd_some, hw, bI_t, if_neg (by decide), fX6_add, n2, if_neg (nI_pos (by omega)), if_neg (show ¬ (6 : Int32) ≤ nI n from nI_ge (b := 6) (by omega) (by omega)), if_pos (show nI n < (6 : Int32) from nI_lt (b := 6) (by omega) (by omega)), as_n (by omega) (by omega)]
        have e : ic_up μ 62 n (nI t) 61 4 = nI n := by simp [ic_up, n2]
        rw [e, az_n (by omega) (by omega) h2, pu_e]
        have e : ic_up (ic_up μ 62 n (nI t)) 63 n a2 61 4 = nI n := by simp [ic_up, n2]
        rw [e, nI_1, rz_1, bd_some, if_neg (by exact one_ne0), bd_some]
        simp [ic_up]
      · have e1 : ic_up (ic_up (ic_up μ 62 n (nI t)) 63 n a2) 61 4 (nI (n + 1)) 90 18 = nI n := by simp [ic_up, n3]
        rw [in_e, bd_some, hw, bI_t, if_neg (by decide), e1, if_neg (show ¬ nI n = (6 : Int32) from fun e => hn ((nI_eq (b := 6) (by omega) (by omega)).mp e)), show (2 : Int32) * nI n = nI (2 * n) from pk_mul 2 n, as_n (by omega) (by omega)]
        have e2 : (if a2 = 0 then some (0 : Int32) else some 1) = some a2 := by
          rcases h2 with rfl | rfl
          · rfl
          · rfl
        have e3 : ic_up (ic_up (ic_up (ic_up μ 62 n (nI t)) 63 n a2) 61 4 (nI (n + 1))) 104 (2 * n) (nI t) 90 18 = nI n := by simp [ic_up, n3]
        rw [e2, bd_some, e3, show (2 : Int32) * nI n + 1 = nI (2 * n + 1) from by rw [show (2 : Int32) * nI n = nI (2 * n) from pk_mul 2 n]; exact nI_1 _, as_n (by omega) (by omega), pu_e]
        have e4 : ic_up (ic_up (ic_up (ic_up (ic_up μ 62 n (nI t)) 63 n a2) 61 4 (nI (n + 1))) 104 (2 * n) (nI t)) 104 (2 * n + 1) a2 90 18 = nI n := by simp [ic_up, n3]
        rw [e4, nI_1]
        simp [ic_up]
      · refine ⟨n + 1, by omega, by simp [ic_up], by simp [ic_up], fun j hj => ?_⟩
        by_cases hjn : j = n
        · subst hjn
          exact ⟨by simp [ic_up], by simp [ic_up], by simpa [ic_up] using h2, t, ht1, ht, by simp [ic_up]⟩
        · obtain ⟨e1, e2, e3, t', ht1', ht', e4⟩ := n4 j (by omega)
          have i1 : ¬ 2 * j = 2 * n + 1 := by omega
          have i2 : ¬ 2 * j + 1 = 2 * n := by omega
          have i3 : ¬ 2 * j = 2 * n := by omega
          exact ⟨by simp [ic_up, hjn, i1, i3, e1], by simp [ic_up, hjn, i2, i3, e2], by simpa [ic_up, hjn, i2, i3] using e3, t', ht1', ht', by simp [ic_up, i1, i3, e4]⟩
theorem pu_write {sw : Nat} {μ : ic_M} (hI : ic_I sw μ) (a1 a2 : Int32) : ∃ (v : Int32) (μ1 : ic_M) (μ2 : ic_M), fX8_write sw μ a1 a2 = some (v, μ1) ∧ fX9_write μ1 a1 a2 = some (v, μ2) ∧ ic_I sw μ2 := by
  obtain ⟨W, H, S, P, h⟩ := id hI
  have hl := ld_hi sw
  obtain ⟨ho, hr, hm, -⟩ := h.1
  have hN := rOK_N ho
  obtain ⟨n, n1, n2, n3, n4⟩ := h.2.2.2.2.2.2.2.2
  unfold fX8_write fX9_write
  cases hc : isC (W * H) a1
  · refine ⟨-1000000001, μ, μ, ?_, ?_, hI⟩
    · rw [c_isCell hr.2.2.2.1, bd_some, hc, bI_f, if_pos rfl]
    · rw [m_isCell hm ho, bd_some, hc, bI_f, if_pos rfl]
  · obtain ⟨c, hcN, rfl⟩ := (isC_t (by omega)).mp hc
    cases hw : wi a2 0 60
    · refine ⟨-1000000002, μ, μ, ?_, ?_, hI⟩
      · rw [c_isCell hr.2.2.2.1, bd_some, hc, bI_t, if_neg (by decide), wi_e, bd_some, hw, bI_f, if_pos rfl]
      · rw [m_isCell hm ho, bd_some, hc, bI_t, if_neg (by decide), in_e, bd_some, hw, bI_f, if_pos rfl]
    · by_cases hn : n = 15
      · subst hn
        refine ⟨-1000000004, μ, μ, ?_, ?_, hI⟩
        · rw [c_isCell hr.2.2.2.1, bd_some, hc, bI_t, if_neg (by decide), wi_e, bd_some, hw, bI_t, if_neg (by decide), fX0_add, n2, if_neg (by decide), if_pos (by decide), rz_0, bd_some]
          rfl
        · rw [m_isCell hm ho, bd_some, hc, bI_t, if_neg (by decide), in_e, bd_some, hw, bI_t, if_neg (by decide), n3, if_pos (by decide)]
      · have hm1 : mR (ic_up (ic_up (ic_up μ 67 n (nI c)) 68 n a2) 66 2 (nI (n + 1))) W H S P := by
          unfold mR at hm ⊢
          rw [ic_up_ne (by omega), ic_up_ne (by omega), ic_up_ne (by omega)]; exact hm
        refine ⟨nI (n + 1), ic_up (ic_up (ic_up μ 67 n (nI c)) 68 n a2) 66 2 (nI (n + 1)), ic_up (ic_up (ic_up (ic_up (ic_up (ic_up μ 67 n (nI c)) 68 n a2) 66 2 (nI (n + 1))) 105 (2 * n) (nI c)) 105 (2 * n + 1) a2) 90 20 (nI (n + 1)), ?_, ?_, W, H, S, P, ⟨iR_fr (fun b hb => by rw [ic_up_ne (by omega), ic_up_ne (by omega), ic_up_ne (by omega), ic_up_ne (by omega), ic_up_ne (by omega), ic_up_ne (by omega)]) h.1, iT_fr (by simp [ic_up]) (by simp [ic_up]) (by rw [ic_up_ne (by omega), ic_up_ne (by omega), ic_up_ne (by omega), ic_up_ne (by omega), ic_up_ne (by omega), ic_up_ne (by omega)]) (by rw [ic_up_ne (by omega), ic_up_ne (by omega), ic_up_ne (by omega), ic_up_ne (by omega), ic_up_ne (by omega), ic_up_ne (by omega)]) h.2.1, (by simp only [ic_up]; simpa using h.2.2.1), iS_fr (by simp [ic_up]) (by simp [ic_up]) h.2.2.2.1, iN_fr (by rw [ic_up_ne (by omega), ic_up_ne (by omega), ic_up_ne (by omega), ic_up_ne (by omega), ic_up_ne (by omega), ic_up_ne (by omega)]) (by rw [ic_up_ne (by omega), ic_up_ne (by omega), ic_up_ne (by omega), ic_up_ne (by omega), ic_up_ne (by omega), ic_up_ne (by omega)]) (by rw [ic_up_ne (by omega), ic_up_ne (by omega), ic_up_ne (by omega), ic_up_ne (by omega), ic_up_ne (by omega), ic_up_ne (by omega)]) (by rw [ic_up_ne (by omega), ic_up_ne (by omega), ic_up_ne (by omega), ic_up_ne (by omega), ic_up_ne (by omega), ic_up_ne (by omega)]) h.2.2.2.2.1, iP_fr (by simp [ic_up]) (by simp [ic_up]) (by simp [ic_up]) (fun b h1 h2 => by rw [ic_up_ne (by omega), ic_up_ne (by omega), ic_up_ne (by omega), ic_up_ne (by omega), ic_up_ne (by omega), ic_up_ne (by omega)]) (by rw [ic_up_ne (by omega), ic_up_ne (by omega), ic_up_ne (by omega), ic_up_ne (by omega), ic_up_ne (by omega), ic_up_ne (by omega)]) h.2.2.2.2.2.1, iK_fr (by simp [ic_up]) (fun b h1 h2 => by rw [ic_up_ne (by omega), ic_up_ne (by omega), ic_up_ne (by omega), ic_up_ne (by omega), ic_up_ne (by omega), ic_up_ne (by omega)]) (by rw [ic_up_ne (by omega), ic_up_ne (by omega), ic_up_ne (by omega), ic_up_ne (by omega), ic_up_ne (by omega), ic_up_ne (by omega)]) (by rw [ic_up_ne (by omega), ic_up_ne (by omega), ic_up_ne (by omega), ic_up_ne (by omega), ic_up_ne (by omega), ic_up_ne (by omega)]) (by rw [ic_up_ne (by omega), ic_up_ne (by omega), ic_up_ne (by omega), ic_up_ne (by omega), ic_up_ne (by omega), ic_up_ne (by omega)]) h.2.2.2.2.2.2.1, iW_fr (by simp [ic_up]) (by simp [ic_up]) (by rw [ic_up_ne (by omega), ic_up_ne (by omega), ic_up_ne (by omega), ic_up_ne (by omega), ic_up_ne (by omega), ic_up_ne (by omega)]) (by rw [ic_up_ne (by omega), ic_up_ne (by omega), ic_up_ne (by omega), ic_up_ne (by omega), ic_up_ne (by omega), ic_up_ne (by omega)]) (by rw [ic_up_ne (by omega), ic_up_ne (by omega), ic_up_ne (by omega), ic_up_ne (by omega), ic_up_ne (by omega), ic_up_ne (by omega)]) h.2.2.2.2.2.2.2.1, ?_⟩⟩
        · rw [c_isCell hr.2.2.2.1, bd_some, hc, bI_t, if_neg (by decide), wi_e, bd_some, hw, bI_t, if_neg (by decide), fX0_add, n2, if_neg (nI_pos (by omega)), if_neg (show ¬ (15 : Int32) ≤ nI n from nI_ge (b := 15) (by omega) (by omega)), if_pos (show nI n < (15 : Int32) from nI_lt (b := 15) (by omega) (by omega)), as_n (by omega) (by omega)]
          have e : ic_up μ 67 n (nI c) 66 2 = nI n := by simp [ic_up, n2]
          rw [e, as_n (by omega) (by omega), pu_e]
          have e : ic_up (ic_up μ 67 n (nI c)) 68 n a2 66 2 = nI n := by simp [ic_up, n2]
          rw [e, nI_1, rz_1, bd_some, if_neg (by exact one_ne0), bd_some]
          simp [ic_up]
        · have e1 : ic_up (ic_up (ic_up μ 67 n (nI c)) 68 n a2) 66 2 (nI (n + 1)) 90 20 = nI n := by simp [ic_up, n3]
          rw [m_isCell hm1 ho, bd_some, hc, bI_t, if_neg (by decide), in_e, bd_some, hw, bI_t, if_neg (by decide), e1, if_neg (show ¬ nI n = (15 : Int32) from fun e => hn ((nI_eq (b := 15) (by omega) (by omega)).mp e)), show (2 : Int32) * nI n = nI (2 * n) from pk_mul 2 n, as_n (by omega) (by omega)]
          have e3 : ic_up (ic_up (ic_up (ic_up μ 67 n (nI c)) 68 n a2) 66 2 (nI (n + 1))) 105 (2 * n) (nI c) 90 20 = nI n := by simp [ic_up, n3]
          rw [e3, show (2 : Int32) * nI n + 1 = nI (2 * n + 1) from by rw [show (2 : Int32) * nI n = nI (2 * n) from pk_mul 2 n]; exact nI_1 _, as_n (by omega) (by omega), pu_e]
          have e4 : ic_up (ic_up (ic_up (ic_up (ic_up μ 67 n (nI c)) 68 n a2) 66 2 (nI (n + 1))) 105 (2 * n) (nI c)) 105 (2 * n + 1) a2 90 20 = nI n := by simp [ic_up, n3]
          rw [e4, nI_1]
          simp [ic_up]
        · refine ⟨n + 1, by omega, by simp [ic_up], by simp [ic_up], fun j hj => ?_⟩
          by_cases hjn : j = n
          · subst hjn
            exact ⟨by simp [ic_up], by simp [ic_up], c, hcN, by simp [ic_up]⟩
          · obtain ⟨e1, e2, c', hc', e4⟩ := n4 j (by omega)
            have i1 : ¬ 2 * j = 2 * n + 1 := by omega
            have i2 : ¬ 2 * j + 1 = 2 * n := by omega
            have i3 : ¬ 2 * j = 2 * n := by omega
            exact ⟨by simp [ic_up, hjn, i1, i3, e1], by simp [ic_up, hjn, i2, i3, e2], c', hc', by simp [ic_up, i1, i3, e4]⟩
