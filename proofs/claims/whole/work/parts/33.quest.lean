/-! ===== the two sides' values are the same ===== -/
def same (μ : ic_M) (a r R P : Nat) : Prop := (∀ c, c < 18 → μ (a + 1) c = μ r c) ∧ (∀ p, p < 6 → μ (a + 2) p = μ r (18 + p)) ∧ ∀ p, p < P → μ (R + 5) p = μ 94 (2 * p + 1)
theorem J_now {R : Nat} {μ : ic_M} {W H S P : Nat} (h : ic_J R μ W H S P) : same μ 4 98 R P ∧ (∀ p, p < P → vP (W * H) (μ (4 + 2) p)) ∧ (∀ p, p < P → vP (W * H) (μ 98 (18 + p))) ∧ gI (μ 98) ∧ gI (μ (4 + 1)) ∧ gW P (μ (R + 5)) ∧ gW P (fun p => μ 94 (2 * p + 1)) := by
  obtain ⟨ho, hr, hm, hl, hp⟩ := h.1
  obtain ⟨⟨e1, e2, -⟩, g1, g2, -⟩ := h.2.2.2.2.1
  have hP := rOK_P ho
  have e1' : ∀ c, c < 18 → μ (4 + 1) c = μ 98 c := fun c hc => by
    have := e1 c hc
    rwa [Nat.zero_add] at this
  have e2' : ∀ p, p < 6 → μ (4 + 2) p = μ 98 (18 + p) := fun c hc => by
    have := e2 c hc
    rwa [Nat.zero_add] at this
  have g2' : ∀ p, p < P → vP (W * H) (μ 98 (18 + p)) := fun p hp => by
    have := g2 p hp
    rwa [Nat.zero_add] at this
  have g1' : gI (μ 98) := fun c hc => by
    have := g1 c hc
    rwa [Nat.zero_add] at this
  refine ⟨⟨e1', e2', fun p hpp => (hp p hpp).2.1⟩, fun p hpp => ?_, g2', g1', fun c hc => ?_, fun p hpp => ?_, fun p hpp => ?_⟩
  · rw [e2' p (by omega)]; exact g2' p hpp
  · rw [e1' c hc]; exact g1' c hc
  · obtain ⟨-, e, -, w, -, hw, e3⟩ := hp p hpp
    exact ⟨w, hw, e.trans e3⟩
  · obtain ⟨-, e, -, w, -, hw, e3⟩ := hp p hpp
    exact ⟨w, hw, e3⟩
section SAME
variable {μ : ic_M} {a r R W N P S : Nat}
theorem ld_same (hs : same μ a r R P) (hP : P ≤ 6) (c : Nat) : ldS W N P (μ (R + 5)) (μ (a + 2)) c = ldS W N P (fun p => μ 94 (2 * p + 1)) (fun p => μ r (18 + p)) c := ldS_congr (fun p hp => hs.2.2 p hp) (fun p hp => hs.2.1 p (by omega))
theorem crk_same (hs : same μ a r R P) (hP : P ≤ 6) {c : Nat} (hc : c < 18) : crk W N P S (μ (R + 5)) (μ (a + 2)) (μ (a + 1)) c = crk W N P S (fun p => μ 94 (2 * p + 1)) (fun p => μ r (18 + p)) (μ r) c := by
  unfold crk
  rw [ld_same hs hP, hs.1 c hc]
theorem ovl_same (hs : same μ a r R P) (hP : P ≤ 6) {c : Nat} (hc : c < 18) : ovl W N P S (μ (R + 5)) (μ (a + 2)) (μ (a + 1)) c = ovl W N P S (fun p => μ 94 (2 * p + 1)) (fun p => μ r (18 + p)) (μ r) c := by
  unfold ovl
  rw [ld_same hs hP, hs.1 c hc]
theorem spr_same (hs : same μ a r R P) (hP : P ≤ 6) {c : Nat} (hc : c < 18) : spr W N P S (μ (R + 5)) (μ (a + 2)) (μ (a + 1)) c = spr W N P S (fun p => μ 94 (2 * p + 1)) (fun p => μ r (18 + p)) (μ r) c := by
  unfold spr
  rw [ld_same hs hP, hs.1 c hc]
end SAME
theorem itr_congrI {σ : Type} {g h : Nat → σ → σ} {I : Nat → σ → Prop} : ∀ (n i : Nat) (s : σ), (∀ j s, i ≤ j → j < i + n → I j s → g j s = h j s ∧ I (j + 1) (g j s)) → I i s → itr g i n s = itr h i n s
  | 0, i, s, _, _ => rfl
  | n + 1, i, s, hs, h0 => by
    have h1 := hs i s (Nat.le_refl _) (by omega) h0
    show itr g (i + 1) n (g i s) = itr h (i + 1) n (h i s)
    rw [← h1.1]
    exact itr_congrI n (i + 1) _ (fun j s h1 h2 => hs j s (by omega) (by omega)) h1.2
theorem fst_congr {N : Nat} {inc inc' sp sp' : Nat → Int32} (hN : N ≤ 18) (h1 : ∀ c, c < N → inc c = inc' c) (h2 : ∀ c, c < N → sp c = sp' c) : itr (fst1 inc sp) 0 N (-1) = itr (fst1 inc' sp') 0 N (-1) := by
  refine itr_congrI (I := fun i s => s = -1 ∨ ∃ b, b < i ∧ s = nI b) N 0 (-1) ?_ (Or.inl rfl)
  intro j s _ hj hI
  constructor
  · unfold fst1
    rw [h1 j (by omega), h2 j (by omega)]
    rcases hI with rfl | ⟨b, hb, rfl⟩
    · simp
    · rw [nI_clamp (show b < 2 ^ 31 by omega), h2 b (by omega)]
  · unfold fst1
    split
    · rcases hI with h | ⟨b, hb, h⟩
      · exact Or.inl h
      · exact Or.inr ⟨b, by omega, h⟩
    · split
      · exact Or.inr ⟨j, by omega, rfl⟩
      · split
        · rcases hI with h | ⟨b, hb, h⟩
          · exact Or.inl h
          · exact Or.inr ⟨b, by omega, h⟩
        · exact Or.inr ⟨j, by omega, rfl⟩
/-- both give the same out -/
def E2 (A B : Option Int32) : Prop := ∃ v, A = some v ∧ B = some v
theorem E2_ite {c : Prop} [Decidable c] {A A' B B' : Option Int32} (h1 : c → E2 A A') (h2 : ¬ c → E2 B B') : E2 (if c then A else B) (if c then A' else B') := by
  by_cases h : c
  · rw [if_pos h, if_pos h]; exact h1 h
  · rw [if_neg h, if_neg h]; exact h2 h
theorem E2_of {A B : Option Int32} {v : Int32} (h1 : A = some v) (h2 : B = some v) : E2 A B := ⟨v, h1, h2⟩
theorem bd_e {A : Option Int32} {v : Int32} (h : A = some v) : Option.bind A (fun v => some v) = some v := by rw [h, bd_some]
/-! lists of the text -/
theorem c_listed {μ : ic_M} {r0 B V d k : Nat} {x1 mn : Int32} {ml : Nat → Int32} (hl : lsOK x1 (μ r0) mn ml B V d) (hB : ic_il 106 r0 = B) (hB2 : B ≤ 18) (hk : k < 2 ^ 31) : ∃ n, 1 ≤ n ∧ n ≤ B ∧ mn = nI n ∧ fX5_listed μ r0 x1 (nI k) (nI d) = some (ml (k % n)) ∧ ∃ v, v ≤ V ∧ ml (k % n) = nI v := by
  obtain ⟨n, h1, h2, h3, h4, h5⟩ := hl
  refine ⟨n, h1, h2, h3, ?_, h5 _ (Nat.mod_lt _ (by omega))⟩
  unfold fX5_listed
  rw [if_neg (nI_pos hk)]
  rcases h4 with ⟨e1, rfl, e3⟩ | ⟨e1, e2⟩
  · rw [e1, if_pos (by decide), Nat.mod_one, e3]
  · rw [e1, if_neg (show ¬ nI n < (1 : Int32) from nI_nlt (a := n) (b := 1) h1 (by omega)), ic_ln, if_neg (by omega), hB, if_pos (show nI n ≤ Int32.ofNat B from nI_le h2 (by omega)), if_neg (nI_ne0 (by omega) (by omega)), pk_rem hk (by omega) (by omega), ag_n (by have := Nat.mod_lt k (show n > 0 by omega); omega) (by omega), e2 _ (Nat.mod_lt _ (by omega))]
section LST
variable {sw : Nat} {μ : ic_M} {W H S P k : Nat}
theorem il_ld (sw : Nat) : ic_il 106 (ic_ld sw + 1) = 18 ∧ ic_il 106 (ic_ld sw + 2) = 6 ∧ ic_il 106 (ic_ld sw + 3) = 12 ∧ ic_il 106 (ic_ld sw + 4) = 6 ∧ ic_il 106 (ic_ld sw + 5) = 6 := by
  rcases ic_ld_or sw with h | h <;> rw [h] <;> decide +kernel
theorem cm_cold (h : iR (ic_ld sw) μ W H S P) (hW : 0 < W) (hk : k < 2 ^ 31) : ∃ v, v ≤ 20 ∧ fX5_coldOf μ (ic_ld sw) (nI k) = some (nI v - 10) ∧ fX9_coldOf μ (nI k) = some (nI v - 10) := by
  obtain ⟨ho, hr, hm, hl, hp⟩ := h
  obtain ⟨-, l2⟩ := hl hW
  obtain ⟨n, h1, h2, h3, h4, v, h5, h6⟩ := c_listed (k := k) l2 (il_ld sw).2.2.1 (by omega) hk
  have h4 : fX5_listed μ (ic_ld sw + 3) (μ (ic_ld sw) 7) (nI k) 10 = _ := h4
  refine ⟨v, h5, ?_, ?_⟩
  · unfold fX5_coldOf
    rw [h4, bd_some, h6]
  · unfold fX9_coldOf
    have hmod := Nat.mod_lt k (show n > 0 by omega)
    rw [show ic_ag μ 92 7 (6 : Int32) = ic_ag μ 92 7 (nI 6) from rfl, m_ag92 (by omega), h3, if_neg (nI_ne0 (by omega) (by omega)), pk_rem hk (by omega) (by omega), show (24 : Int32) = nI 24 from rfl, nI_add, ag_n (by omega) (by omega), h6]
theorem cm_current (h : iR (ic_ld sw) μ W H S P) (hk : k < W * H) : ∃ v, v ≤ 9 ∧ fX5_currentAt μ (ic_ld sw) (nI k) = some (nI v) ∧ fX9_currentOf μ (nI k) = some (nI v) := by
  obtain ⟨ho, hr, hm, hl, hp⟩ := h
  have hN := rOK_N ho
  have hy := rOK_y ho hk
  obtain ⟨y1, y2, y3, y4⟩ := hy
  obtain ⟨l1, -⟩ := hl (by omega)
  have hmw := Nat.mod_lt k (show W > 0 by omega)
  obtain ⟨n, h1, h2, h3, h4, v, h5, h6⟩ := c_listed (k := k % W) l1 (il_ld sw).2.1 (by omega) (by omega)
  have h4 : fX5_listed μ (ic_ld sw + 2) (μ (ic_ld sw) 6) (nI (k % W)) 0 = _ := h4
  refine ⟨v, h5, ?_, ?_⟩
  · unfold fX5_currentAt
    rw [hr.1, if_pos (show (1 : Int32) ≤ nI W from nI_le (a := 1) (by omega) (by omega)), if_neg (nI_ne0 (by omega) (by omega)), pk_rem (by omega) (by omega) (by omega), h4, bd_some, bd_some, h6]
  · unfold fX9_currentOf
    have hmod := Nat.mod_lt (k % W) (show n > 0 by omega)
    rw [show ic_ag μ 92 7 (0 : Int32) = ic_ag μ 92 7 (nI 0) from rfl, m_ag92 (by omega), hm.1, if_neg (nI_ne0 (by omega) (by omega)), show ic_ag μ 92 7 (5 : Int32) = ic_ag μ 92 7 (nI 5) from rfl, m_ag92 (by omega), h3, if_neg (nI_ne0 (by omega) (by omega)), pk_rem (a := k) (by omega) (by omega) (by omega), pk_rem (by omega) (by omega) (by omega), show (18 : Int32) = nI 18 from rfl, nI_add, ag_n (by omega) (by omega), h6]
end LST
theorem isC_f {N : Nat} {x : Int32} (hN : N ≤ 18) (h : ¬ bI (isC N x) = 0) : ∃ c, c < N ∧ x = nI c := by
  rw [bI_0] at h
  exact (isC_t (by omega)).mp (by simpa using h)
/-! ===== the calls that only ask ===== -/
theorem pu_of {sw : Nat} {μ : ic_M} {A B : Option Int32} (hI : ic_I sw μ) (h : E2 A B) : ∃ v : Int32, A = some v ∧ B = some v ∧ ic_I sw μ := by
  obtain ⟨v, h1, h2⟩ := h
  exact ⟨v, h1, h2, hI⟩
theorem pu_told {sw : Nat} {μ : ic_M} (hI : ic_I sw μ) (a1 : Int32) : ∃ (v : Int32), fX8_told sw μ a1 = some v ∧ fX9_told μ a1 = some v ∧ ic_I sw μ := by
  obtain ⟨W, H, S, P, h⟩ := id hI
  obtain ⟨ho, hr, hm, hl, -⟩ := h.1
  obtain ⟨hs, v1, v2, g1, g2, w1, w2⟩ := J_now h
  have hN := rOK_N ho
  have hP := rOK_P ho
  obtain ⟨n1, -, t1, t2, -⟩ := h.2.1
  obtain ⟨⟨-, -, q1, q2, q3, q4⟩, -⟩ := h.2.2.2.2.1
  obtain ⟨n2, nx, -, -, t3, -, t4, -⟩ := h.2.2.2.2.2.1
  obtain ⟨n3, -, t5, t6, -⟩ := h.2.2.2.2.2.2.2.1
  obtain ⟨n4, -, t7, t8, -⟩ := h.2.2.2.2.2.2.2.2
  apply pu_of hI
  unfold fX8_told fX9_told
  refine E2_ite (fun _ => E2_of (congrArg some hr.1) ((ag_n (k := 0) (by omega) (by omega)).trans (congrArg some hm.1))) (fun _ => ?_)
  refine E2_ite (fun _ => E2_of (congrArg some hr.2.1) ((ag_n (k := 1) (by omega) (by omega)).trans (congrArg some hm.2.1))) (fun _ => ?_)
  refine E2_ite (fun _ => E2_of (congrArg some hr.2.2.1) ((ag_n (k := 2) (by omega) (by omega)).trans (congrArg some hm.2.2.1))) (fun _ => ?_)
  refine E2_ite (fun _ => E2_of (congrArg some hr.2.2.2.2) ((ag_n (k := 3) (by omega) (by omega)).trans (congrArg some hm.2.2.2))) (fun _ => ?_)
  refine E2_ite (fun _ => E2_of (congrArg some t1) (congrArg some t2)) (fun _ => ?_)
  refine E2_ite (fun _ => E2_of (congrArg some q3) (ag_n (k := 26) (by omega) (by omega))) (fun _ => ?_)
  refine E2_ite (fun _ => E2_of (congrArg some q2) (ag_n (k := 25) (by omega) (by omega))) (fun _ => ?_)
  refine E2_ite (fun _ => E2_of (bd_e (c_holes hr ho)) (bd_e ((m_holes hm ho).trans (congrArg some (bs_congr (fun c hc => ?_)))))) (fun _ => ?_)
  · rw [hs.1 c (by omega)]
  refine E2_ite (fun _ => E2_of (congrArg some q1) (ag_n (k := 24) (by omega) (by omega))) (fun _ => ?_)
  refine E2_ite (fun _ => E2_of (bd_e (c_crack hr ho v1)) (bd_e ((m_knock hm ho v2).trans (congrArg some (bs_congr (fun c hc => ?_)))))) (fun _ => ?_)
  · rw [crk_same hs hP (by omega)]
  refine E2_ite (fun _ => E2_of (bd_e (c_drowned (a := 4) hr ho)) (bd_e ((m_on rfl hm ho).trans (congrArg some (bs_congr (fun c hc => ?_)))))) (fun _ => ?_)
  · rw [hs.2.1 c (by omega)]
  refine E2_ite (fun _ => E2_of (congrArg some q4) (ag_n (k := 27) (by omega) (by omega))) (fun _ => ?_)
  refine E2_ite (fun _ => E2_of (bd_e (c_first hr ho v1)) (bd_e ((m_first hm ho g1 v2).trans (congrArg some (fst_congr hN (fun c hc => ?_) (fun c hc => ?_)))))) (fun _ => ?_)
  · rw [hs.1 c (by omega)]
  · rw [spr_same hs hP (by omega)]
  refine E2_ite (fun _ => E2_of (congrArg some t5) (congrArg some t6)) (fun _ => ?_)
  refine E2_ite (fun _ => E2_of (congrArg some t7) (congrArg some t8)) (fun _ => ?_)
  refine E2_ite (fun _ => E2_of (congrArg some t3) (congrArg some t4)) (fun _ => ?_)
  exact E2_of rfl rfl
theorem pu_cell {sw : Nat} {μ : ic_M} (hI : ic_I sw μ) (a1 a2 : Int32) : ∃ (v : Int32), fX8_cell sw μ a1 a2 = some v ∧ fX9_cell μ a1 a2 = some v ∧ ic_I sw μ := by
  obtain ⟨W, H, S, P, h⟩ := id hI
  obtain ⟨ho, hr, hm, hl, -⟩ := h.1
  obtain ⟨hs, v1, v2, g1, g2, w1, w2⟩ := J_now h
  have hN := rOK_N ho
  have hP := rOK_P ho
  apply pu_of hI
  unfold fX8_cell fX9_cell
  rw [c_isCell hr.2.2.2.1, bd_some, m_isCell hm ho, bd_some]
  refine E2_ite (fun _ => E2_of rfl rfl) (fun hc => ?_)
  obtain ⟨c, hcN, rfl⟩ := isC_f (by omega) hc
  have hy := rOK_y ho hcN
  refine E2_ite (fun _ => E2_of (bd_e (c_inch (a := 4) (by omega))) ((ag_n (by omega) (by omega)).trans (congrArg some (hs.1 c (by omega)).symm))) (fun _ => ?_)
  refine E2_ite (fun _ => E2_of (bd_e (c_bears (a := 4) hr (by omega))) (bd_e ((m_bears rfl hm (by omega)).trans (by rw [hs.1 c (by omega)])))) (fun _ => ?_)
  refine E2_ite (fun _ => E2_of (bd_e (c_load hr hy hP hcN v1)) (bd_e ((m_load rfl hm hy hP hcN v2).trans (by rw [ld_same hs hP])))) (fun _ => ?_)
  refine E2_ite (fun _ => E2_of (bd_e (c_on (a := 4) hr ho)) (bd_e ((m_on rfl hm ho).trans (congrArg some (bs_congr (fun p hp => ?_)))))) (fun _ => ?_)
  · rw [hs.2.1 p (by omega)]
  refine E2_ite (fun _ => ?_) (fun _ => ?_)
  · obtain ⟨v, -, e1, e2⟩ := cm_current h.1 hcN
    exact E2_of (bd_e e1) (bd_e e2)
  refine E2_ite (fun _ => ?_) (fun _ => E2_of rfl rfl)
  rw [c_spare hr ho hcN v1, m_spare hm ho hcN v2, bd_some, bd_some, spr_same hs hP (by omega)]
  exact E2_of rfl rfl
theorem pu_cold {sw : Nat} {μ : ic_M} (hI : ic_I sw μ) (a1 : Int32) : ∃ (v : Int32), fX8_cold sw μ a1 = some v ∧ fX9_cold μ a1 = some v ∧ ic_I sw μ := by
  obtain ⟨W, H, S, P, h⟩ := id hI
  obtain ⟨ho, hr, hm, hl, -⟩ := h.1
  apply pu_of hI
  unfold fX8_cold fX9_cold
  rw [wi_e, bd_some, in_e, bd_some]
  cases hw : wi a1 0 9999
  · exact E2_of (v := -1000000002) (by rw [bI_f, if_pos rfl]) (by rw [bI_f, if_pos rfl]; rfl)
  · rw [bI_t, if_neg one_ne0, if_neg one_ne0]
    obtain ⟨k, -, hk, rfl⟩ := (wi_n (a := 0) (b := 9999) (by omega) (by omega)).mp hw
    rw [c_noRiver hr ho, bd_some, m_isRiver hm ho, bd_some]
    by_cases hW : W = 0
    · exact E2_of (v := -1000000003) (by simp [hW, bI, bd_some]) (by simp [hW, bI, bd_some])
    · obtain ⟨v, -, e1, e2⟩ := cm_cold (k := k) h.1 (by omega) (by omega)
      exact E2_of (v := nI v - 10 + 10) (by simp [hW, bI, bd_some, e1]) (by simp [hW, bI, bd_some, e2])
theorem pu_person {sw : Nat} {μ : ic_M} (hI : ic_I sw μ) (a1 a2 : Int32) : ∃ (v : Int32), fX8_person sw μ a1 a2 = some v ∧ fX9_person μ a1 a2 = some v ∧ ic_I sw μ := by
  obtain ⟨W, H, S, P, h⟩ := id hI
  obtain ⟨ho, hr, hm, hl, hpp⟩ := h.1
  obtain ⟨hs, v1, v2, g1, g2, w1, w2⟩ := J_now h
  have hP := rOK_P ho
  apply pu_of hI
  unfold fX8_person fX9_person
  rw [c_isPerson hr.2.2.2.2, bd_some, m_isPerson hm ho, bd_some]
  refine E2_ite (fun _ => E2_of rfl rfl) (fun hc => ?_)
  obtain ⟨p, hp, rfl⟩ := isC_f (by omega) hc
  rw [in_e, bd_some]
  by_cases h0 : a2 = 0
  · subst h0
    rw [if_pos rfl, c_town (by omega), bd_some, (hpp p hp).1]
    refine E2_of rfl ?_
    rw [if_neg (by decide), if_neg (by decide), show (2 : Int32) * nI p + 0 = nI (2 * p) from by rw [Int32.add_zero]; exact pk_mul 2 p, ag_n (by omega) (by omega)]
    rfl
  · rw [if_neg h0]
    by_cases h1 : a2 = 1
    · subst h1
      rw [if_pos rfl, c_weight (by omega), bd_some, (hpp p hp).2.1]
      refine E2_of rfl ?_
      rw [if_neg (by decide), if_neg (by decide), show (2 : Int32) * nI p + 1 = nI (2 * p + 1) from by rw [show (2 : Int32) * nI p = nI (2 * p) from pk_mul 2 p]; exact nI_1 _, ag_n (by omega) (by omega)]
      rfl
    · rw [if_neg h1]
      by_cases h2 : a2 = 2
      · subst h2
        rw [if_pos rfl, c_place (by omega), bd_some, hs.2.1 p (by omega)]
        refine E2_of rfl ?_
        rw [if_neg (by decide), if_pos (by decide), show (18 : Int32) + nI p = nI (18 + p) from nI_add 18 p, ag_n (by omega) (by omega)]
        rfl
      · rw [if_neg h2]
        refine E2_of rfl ?_
        have : wi a2 0 2 = false := by
          cases hw : wi a2 0 2
          · rfl
          · obtain ⟨k, -, hk, rfl⟩ := (wi_n (a := 0) (b := 2) (by omega) (by omega)).mp hw
            exfalso
            have : k = 0 ∨ k = 1 ∨ k = 2 := by omega
            rcases this with rfl | rfl | rfl
            · exact h0 rfl
            · exact h1 rfl
            · exact h2 rfl
        rw [this, bI_f, if_pos rfl]
        rfl
/-! ===== game, thaw ===== -/
theorem min_e {x y : Int32} : (if y ≤ x then y else x) = (if y < x then y else x) := by
  by_cases h : y < x
  · rw [if_pos h, if_pos (Int32.le_of_lt h)]
  · rw [if_neg h]
    by_cases h2 : y ≤ x
    · rw [if_pos h2]
      apply Int32.toInt_inj.mp
      rw [Int32.lt_iff_toInt_lt] at h
      rw [Int32.le_iff_toInt_le] at h2
      omega
    · rw [if_neg h2]
theorem max_e {x y : Int32} : (if x ≤ y then y else x) = (if x < y then y else x) := by
  by_cases h : x < y
  · rw [if_pos h, if_pos (Int32.le_of_lt h)]
  · rw [if_neg h]
    by_cases h2 : x ≤ y
    · rw [if_pos h2]
      apply Int32.toInt_inj.mp
      rw [Int32.lt_iff_toInt_lt] at h
      rw [Int32.le_iff_toInt_le] at h2
      omega
    · rw [if_neg h2]
theorem les_e (μ : ic_M) (x y : Int32) : fX9_lesser μ x y = some (if y < x then y else x) := by
  unfold fX9_lesser
  rw [← min_e]
  split <;> rfl
theorem gre_e (μ : ic_M) (x y : Int32) : fX9_greater μ x y = some (if x < y then y else x) := by
  unfold fX9_greater
  rw [← max_e]
  split <;> rfl
theorem nI_min {a b : Nat} (ha : a ≤ 99) (hb : b ≤ 99) : (if nI b < nI a then nI b else nI a) = nI (min a b) := by
  by_cases h : b < a
  · rw [if_pos (nI_lt h (by omega)), Nat.min_eq_right (by omega)]
  · rw [if_neg (nI_nlt (by omega) (by omega)), Nat.min_eq_left (by omega)]
theorem nI_max {a b : Nat} (ha : a ≤ 99) (hb : b ≤ 99) : (if nI a < nI b then nI b else nI a) = nI (max a b) := by
  by_cases h : a < b
  · rw [if_pos (nI_lt h (by omega)), Nat.max_eq_right (by omega)]
  · rw [if_neg (nI_nlt (by omega) (by omega)), Nat.max_eq_left (by omega)]
theorem game0 {a b c d : Nat} (ha : a ≤ 99) (hb : b ≤ 99) (hc : c ≤ 99) (hd : d ≤ 99) (h : nI a + nI d - nI b - nI c = 0) : max (min a b) (min c d) = min (max a c) (max b d) := by
  have h1 : (nI a + nI d - nI b - nI c).toInt = 0 := by rw [h]; rfl
  rw [nI_add] at h1
  have h2 : (nI (a + d) - nI b).toInt = (a + d : Nat) - (b : Int) := pk_sub_toInt (by omega) (by omega)
  have h3 : (nI (a + d) - nI b - nI c).toInt = (nI (a + d) - nI b).toInt - (nI c).toInt := by
    rw [Int32.toInt_sub, h2, nI_toInt (by omega)]
    apply Int.bmod_eq_of_le <;> omega
  rw [h3, h2, nI_toInt (by omega)] at h1
  omega
theorem pu_game {sw : Nat} {μ : ic_M} (hI : ic_I sw μ) (a1 a2 a3 a4 a5 : Int32) : ∃ (v : Int32), fX8_game sw μ a1 a2 a3 a4 a5 = some v ∧ fX9_game μ a1 a2 a3 a4 a5 = some v ∧ ic_I sw μ := by
  apply pu_of hI
  unfold fX8_game fX9_game
  simp only [wi_e, in_e, bd_some, les_e, gre_e, lt_e]
  cases h1 : wi a1 0 99
  · exact E2_of (v := -1000000002) (by simp [bI, bd_some]) (by simp [bI, bd_some])
  cases h2 : wi a2 0 99
  · exact E2_of (v := -1000000002) (by simp [bI, bd_some]) (by simp [bI, bd_some])
  cases h3 : wi a3 0 99
  · exact E2_of (v := -1000000002) (by simp [bI, bd_some]) (by simp [bI, bd_some])
  cases h4 : wi a4 0 99
  · exact E2_of (v := -1000000002) (by simp [bI, bd_some]) (by simp [bI, bd_some])
  cases h5 : wi a5 0 1
  · exact E2_of (v := -1000000002) (by simp [bI, bd_some]) (by simp [bI, bd_some])
  obtain ⟨a, -, ha, rfl⟩ := (wi_n (a := 0) (b := 99) (by omega) (by omega)).mp h1
  obtain ⟨b, -, hb, rfl⟩ := (wi_n (a := 0) (b := 99) (by omega) (by omega)).mp h2
  obtain ⟨c, -, hc, rfl⟩ := (wi_n (a := 0) (b := 99) (by omega) (by omega)).mp h3
  obtain ⟨d, -, hd, rfl⟩ := (wi_n (a := 0) (b := 99) (by omega) (by omega)).mp h4
  obtain ⟨w, -, hw, rfl⟩ := (wi_n (a := 0) (b := 1) (by omega) (by omega)).mp h5
  simp only [bI_t, if_neg one_ne0, bd_some, nI_min ha hb, nI_min hc hd, nI_max ha hc, nI_max hb hd]
  simp only [nI_max (show min a b ≤ 99 by omega) (show min c d ≤ 99 by omega), nI_min (show max a c ≤ 99 by omega) (show max b d ≤ 99 by omega), nI_eq (show max (min a b) (min c d) < 2 ^ 31 by omega) (show min (max a c) (max b d) < 2 ^ 31 by omega)]
  by_cases hs : max (min a b) (min c d) = min (max a c) (max b d)
  · rw [if_pos hs, if_pos hs, Int32.mul_comm 1000]
    by_cases hw1 : nI w = 1
    · exact E2_of (v := nI (max (min a b) (min c d)) * 1000) (by rw [if_pos hw1]; rfl) (by rw [if_pos hw1]; rfl)
    · rw [if_neg hw1]
      by_cases hg : nI (min a b) < nI (min c d)
      · rw [if_pos hg]; exact E2_of rfl rfl
      · rw [if_neg hg]; exact E2_of rfl rfl
  · rw [if_neg hs, if_neg hs]
    have h0 : ¬ nI a + nI d - nI b - nI c = 0 := fun e => hs (game0 ha hb hc hd e)
    simp only [if_neg h0]
    have : w = 0 ∨ w = 1 := by omega
    rcases this with rfl | rfl
    · exact E2_of (v := (nI d - nI c) * 1000000 / (nI a + nI d - nI b - nI c)) rfl rfl
    · exact E2_of (v := (nI a * nI d - nI b * nI c) * 1000 / (nI a + nI d - nI b - nI c)) rfl rfl
theorem th_e {sw : Nat} {μ : ic_M} {x1 x2 : Int32} : ∀ (fu : Nat) (y z : Int32), lpX8_thaw_30 sw μ x1 x2 fu y z = lpX9_thaw_30 μ x1 x2 fu y z
  | 0, _, _ => rfl
  | fu + 1, y, z => by
    rw [lpX8_thaw_30, lpX9_thaw_30]
    simp only [lt_e]
    rw [th_e fu]
theorem pu_thaw {sw : Nat} {μ : ic_M} (hI : ic_I sw μ) (a1 a2 : Int32) : ∃ (v : Int32), fX8_thaw sw μ a1 a2 = some v ∧ fX9_thaw μ a1 a2 = some v ∧ ic_I sw μ := by
  apply pu_of hI
  unfold fX8_thaw fX9_thaw
  simp only [wi_e, in_e, bd_some, th_e]
  refine E2_ite (fun _ => E2_of rfl rfl) (fun h1 => ?_)
  refine E2_ite (fun _ => E2_of rfl rfl) (fun _ => ?_)
  rw [bI_0] at h1
  obtain ⟨n, -, hn, rfl⟩ := (wi_n (a := 0) (b := 60) (by omega) (by omega)).mp (show wi a1 0 60 = true by simpa using h1)
  have key : lpX9_thaw_30 μ (nI n) a2 1000 1000000 0 = _ := for_e (lp := fun fu i s => lpX9_thaw_30 μ (nI n) a2 fu s (nI i)) (fin := some) (g := fun _ s => s * (100 - a2) / 100) n (fun _ _ => True) ?_ (fun _ _ _ _ => trivial) ?_ n 1000 0 1000000 (by omega) (by omega) trivial
  · exact E2_of (bd_e key) (bd_e key)
  · intro fu i s hi _
    rw [lpX9_thaw_30, if_neg (nI_ge hi (by omega)), if_neg (by decide), lt_e, lt_e, nI_1]
  · intro fu s _
    rw [lpX9_thaw_30, if_pos (by exact nI_le (Nat.le_refl _) (by omega))]
/-! ===== searching: the first of which it holds ===== -/
def srch (f : Nat → Bool) : Nat → Nat → Option Nat
  | _, 0 => none
  | i, n + 1 => if f i = true then some i else srch f (i + 1) n
theorem srch_congr {f g : Nat → Bool} : ∀ {n i : Nat}, (∀ j, i ≤ j → j < i + n → f j = g j) → srch f i n = srch g i n
  | 0, _, _ => rfl
  | n + 1, i, h => by
    show (if f i = true then some i else srch f (i + 1) n) = (if g i = true then some i else srch g (i + 1) n)
    rw [h i (Nat.le_refl _) (by omega), srch_congr (fun j h1 h2 => h j (by omega) (by omega))]
def srO (o : Option Nat) : Unit ⊕ Int32 := match o with
  | none => .inl ()
  | some j => .inr (nI j)
theorem srch_e {lp : Nat → Nat → Option (Unit ⊕ Int32)} {f : Nat → Bool} {N : Nat} (hs : ∀ fu i, i < N → lp (fu + 1) i = if f i = true then some (.inr (nI i)) else lp fu (i + 1)) (hx : ∀ fu, lp (fu + 1) N = some (.inl ())) : ∀ n i fu, i + n = N → n < fu → lp fu i = some (srO (srch f i n)) := by
  intro n
  induction n with
  | zero =>
    intro i fu hi hfu
    have : i = N := by omega
    subst this
    cases fu with
    | zero => omega
    | succ fu => rw [hx fu]; rfl
  | succ n ih =>
    intro i fu hi hfu
    cases fu with
    | zero => omega
    | succ fu =>
      rw [hs fu i (by omega)]
      show _ = some (srO (if f i = true then some i else srch f (i + 1) n))
      by_cases h : f i = true
      · rw [if_pos h, if_pos h]; rfl
      · rw [if_neg h, if_neg h]
        exact ih (i + 1) fu (by omega) (by omega)
def srV (o : Option Nat) : Int32 := match o with
  | none => -1
  | some j => nI j
theorem srV_e {o : Option Nat} : Sum.elim (fun (_ : Unit) => some (-1 : Int32)) some (srO o) = some (srV o) := by
  cases o <;> rfl
theorem pu_judge {sw : Nat} {μ : ic_M} (hI : ic_I sw μ) : ∃ (v : Int32), fX8_judge sw μ = some v ∧ fX9_judge μ = some v ∧ ic_I sw μ := by
  obtain ⟨W, H, S, P, h⟩ := id hI
  obtain ⟨ho, hr, hm, hl, -⟩ := h.1
  obtain ⟨hs, v1, v2, g1, g2, w1, w2⟩ := J_now h
  have hN := rOK_N ho
  obtain ⟨n, n1, n2, n3, n4⟩ := h.2.2.2.2.2.2.2.2
  apply pu_of hI
  have k1 : lpX0_firstWrong_2 μ 4 1000 0 = _ := srch_e (lp := fun fu i => lpX0_firstWrong_2 μ 4 fu (nI i)) (N := n) (f := fun j => decide (¬ μ 98 ((μ 105 (2 * j)).toNatClampNeg) = μ 105 (2 * j + 1))) ?_ ?_ n 0 1000 (by omega) (by omega)
  have k2 : lpX9_judge_2 μ 1000 0 = _ := srch_e (lp := fun fu i => lpX9_judge_2 μ fu (nI i)) (N := n) (f := fun j => decide (¬ μ 98 ((μ 105 (2 * j)).toNatClampNeg) = μ 105 (2 * j + 1))) ?_ ?_ n 0 1000 (by omega) (by omega)
  · unfold fX8_judge fX0_firstWrong fX9_judge
    rw [k1, k2, bd_some, srV_e]
    exact E2_of (bd_some _ _) rfl
  · intro fu i hi
    obtain ⟨e1, e2, c, hc, e3⟩ := n4 i hi
    rw [lpX9_judge_2, n3, if_neg (nI_ge hi (by omega)), show (2 : Int32) * nI i = nI (2 * i) from pk_mul 2 i, ag_n (by omega) (by omega), e3, ag_n (by omega) (by omega), show nI (2 * i) + 1 = nI (2 * i + 1) from nI_1 _, ag_n (by omega) (by omega), nI_clamp (by omega)]
    simp only [lt_e, nI_1]
    by_cases hq : μ 98 c = μ 105 (2 * i + 1)
    · simp [hq]
    · simp [hq]
  · intro fu
    rw [lpX9_judge_2, n3, if_pos (by exact nI_le (Nat.le_refl _) (by omega))]
  · intro fu i hi
    obtain ⟨e1, e2, c, hc, e3⟩ := n4 i hi
    have h15 : ¬ (15 : Int32) ≤ nI i := nI_ge (b := 15) (by omega) (by omega)
    rw [lpX0_firstWrong_2, n2, if_neg (nI_ge hi (by omega)), if_neg h15, if_neg h15, ag_n (by omega) (by omega), e1, e3, c_inch (by omega), bd_some, ag_n (by omega) (by omega), e2, hs.1 c (by omega), nI_clamp (by omega)]
    simp only [lt_e, nI_1]
    by_cases hq : μ 98 c = μ 105 (2 * i + 1)
    · simp [hq]
    · simp [hq]
  · intro fu
    rw [lpX0_firstWrong_2, n2, if_pos (by exact nI_le (Nat.le_refl _) (by omega))]
theorem pu_leastSalt {sw : Nat} {μ : ic_M} (hI : ic_I sw μ) (a1 : Int32) : ∃ (v : Int32), fX8_leastSalt sw μ a1 = some v ∧ fX9_leastSalt μ a1 = some v ∧ ic_I sw μ := by
  obtain ⟨W, H, S, P, h⟩ := id hI
  obtain ⟨ho, hr, hm, hl, -⟩ := h.1
  obtain ⟨hs, v1, v2, g1, g2, w1, w2⟩ := J_now h
  have hN := rOK_N ho
  have hP := rOK_P ho
  apply pu_of hI
  unfold fX8_leastSalt fX9_leastSalt
  rw [c_isCell hr.2.2.2.1, bd_some, m_isCell hm ho, bd_some]
  by_cases hc : bI (isC (W * H) a1) = 0
  · rw [if_pos hc, if_pos hc]; exact E2_of rfl rfl
  rw [if_neg hc, if_neg hc]
  obtain ⟨c, hcN, rfl⟩ := isC_f (by omega) hc
  have hy := rOK_y ho hcN
  obtain ⟨m, hm60, em⟩ := g1 c (by omega)
  unfold fX7_saltFor
  rw [c_load hr hy hP hcN v1, m_load rfl hm hy hP hcN v2, ld_same hs hP, c_inch (by omega), bd_some, bd_some, bd_some, hs.1 c (by omega), em]
  generalize ldS W (W * H) P (fun p => μ 94 (2 * p + 1)) (fun p => μ 98 (18 + p)) c = L
  have k1 : lpX7_saltFor_18 μ (ic_ld sw) L (nI m) 1000 1 = _ := srch_e (lp := fun fu i => lpX7_saltFor_18 μ (ic_ld sw) L (nI m) fu (nI i)) (N := m + 1) (f := fun j => decide (nI S * (nI m - nI j) < L) || decide (j = m)) ?_ ?_ m 1 1000 (by omega) (by omega)
  have k2 : lpX9_leastSalt_23 μ (nI c) L 1000 1 = _ := srch_e (lp := fun fu i => lpX9_leastSalt_23 μ (nI c) L fu (nI i)) (N := m + 1) (f := fun j => decide (nI S * (nI m - nI j) < L) || decide (j = m)) ?_ ?_ m 1 1000 (by omega) (by omega)
  · rw [k1, k2, bd_some, srV_e]
    exact E2_of rfl rfl
  · intro fu i hi
    have hag : ∀ (T : Int32 → Option (Unit ⊕ Int32)), ic_ag μ 98 28 (nI c) T = T (nI m) := fun T => by rw [ag_n (by omega) (by omega), em]
    rw [lpX9_leastSalt_23, hag, if_neg (nI_nlt (by omega) (by omega)), show ic_ag μ 92 7 (2 : Int32) = ic_ag μ 92 7 (nI 2) from rfl, m_ag92 (by omega), hag, hag, hm.2.2.1]
    simp only [lt_e, nI_1, nI_eq (show i < 2 ^ 31 by omega) (show m < 2 ^ 31 by omega)]
    by_cases q1 : nI S * (nI m - nI i) < L
    · simp [q1]
    · by_cases q2 : i = m
      · simp [q1, q2]
      · simp [q1, q2]
  · intro fu
    rw [lpX9_leastSalt_23, ag_n (by omega) (by omega), em, if_pos (nI_lt (by omega) (by omega))]
  · intro fu i hi
    rw [lpX7_saltFor_18, if_neg (nI_nlt (by omega) (by omega)), hr.2.2.1]
    simp only [lt_e, nI_1, nI_eq (show i < 2 ^ 31 by omega) (show m < 2 ^ 31 by omega)]
    by_cases q1 : nI S * (nI m - nI i) < L
    · simp [q1]
    · by_cases q2 : i = m
      · simp [q1, q2]
      · simp [q1, q2]
  · intro fu
    rw [lpX7_saltFor_18, if_pos (nI_lt (by omega) (by omega))]
