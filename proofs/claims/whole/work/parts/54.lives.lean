/-! ===== lives ===== -/
def lvF (q : Nat → Int32) (W H S P : Nat) (s : iceS) (p : Nat) (d : Bool) (c : Nat) : Bool := goS W (W * H) (colN W (q (2 * p))) (sP s p) (sI s) c && (decide (0 < nbS q W H S P (putS s p (nI c))) && (decide (sP (goR q W H S P s p (nI c)) p = -2) == d))
/-- who drowns by a step, drowns with ice that broke -/
theorem lv_drown {q : Nat → Int32} {W H S P p c : Nat} {s : iceS} (hN : W * H ≤ 18) (hp : p < P) (hc : c < W * H) (h : sP (goR q W H S P s p (nI c)) p = -2) : 0 < nbS q W H S P (putS s p (nI c)) := by
  have e : (if p < P ∧ inS (bs (ovS q W H S P (putS s p (nI c))) (W * H)) (if p = p then nI c else sP s p) = true then -2 else (if p = p then nI c else sP s p)) = -2 := h
  rw [if_pos (rfl : p = p)] at e
  by_cases h1 : p < P ∧ inS (bs (ovS q W H S P (putS s p (nI c))) (W * H)) (nI c) = true
  · have h2 := h1.2
    rw [inS_n (by omega), bs_lo (by omega) hc] at h2
    exact cnt_pos hc h2
  · rw [if_neg h1] at e
    exact absurd e.symm (m2_ne (by omega))
theorem refu {sw : Nat} {μ : ic_M} {W H S P : Nat} {x1 x2 : Int32} {s : iceS} (h : ic_J (ic_ld sw) μ W H S P) (s1 : icA μ 4 s) : (∃ v : Int32, ¬ v = 0 ∧ fX8_refusalOfPerson sw μ x1 x2 = some v ∧ (v = -1000000001 ∧ isC P x1 = false ∨ v = -1000000002 ∧ isC P x1 = true ∧ wi x2 0 1 = false ∨ v = -1000000003 ∧ wi x2 0 1 = true ∧ ∃ p, p < P ∧ x1 = nI p ∧ sP s p = -2)) ∨ (fX8_refusalOfPerson sw μ x1 x2 = some 0 ∧ wi x2 0 1 = true ∧ ∃ p, p < P ∧ x1 = nI p ∧ ¬ sP s p = -2) := by
  obtain ⟨ho, hr, hm, hl, -⟩ := h.1
  have hP := rOK_P ho
  unfold fX8_refusalOfPerson
  rw [c_isPerson hr.2.2.2.2, bd_some]
  cases hc : isC P x1
  · left
    exact ⟨-1000000001, by decide, by rw [bI_f, if_pos rfl], Or.inl ⟨rfl, rfl⟩⟩
  · obtain ⟨p, hp, rfl⟩ := (isC_t (by omega)).mp hc
    rw [bI_t, if_neg one_ne0, wi_e, bd_some]
    cases hw : wi x2 0 1
    · left
      exact ⟨-1000000002, by decide, by rw [bI_f, if_pos rfl], Or.inr (Or.inl ⟨rfl, rfl, rfl⟩)⟩
    · rw [bI_t, if_neg one_ne0, c_place (by omega), bd_some, s1.2.1 p (by omega)]
      by_cases hd : sP s p = -2
      · left
        exact ⟨-1000000003, by decide, by rw [if_pos hd]; rfl, Or.inr (Or.inr ⟨rfl, rfl, p, hp, rfl, hd⟩)⟩
      · right
        exact ⟨by rw [if_neg hd]; rfl, rfl, p, hp, rfl, hd⟩
theorem bs_push {f : Nat → Bool} {i : Nat} {x : Int32} (h : x = bs f i) : (if f i = true then x ||| ((1 : Int32) <<< (nI i &&& 31)) else x) = bs f (i + 1) := by
  rw [bs_succ, h]
  cases f i
  · rw [if_neg (by simp)]; exact (Int32.or_zero).symm
  · rw [if_pos rfl]; rfl
theorem pu_lives {sw : Nat} {μ : ic_M} (hI : ic_I sw μ) (a1 a2 : Int32) : ∃ (v : Int32) (μ1 : ic_M) (μ2 : ic_M), fX8_lives sw μ a1 a2 = some (v, μ1) ∧ fX9_lives μ1 a1 a2 = some (v, μ2) ∧ ic_I sw μ2 := by
  obtain ⟨W, H, S, P, h⟩ := id hI
  obtain ⟨ho, hr, hm, hl, -⟩ := h.1
  have hN := rOK_N ho
  have hP := rOK_P ho
  have hld := ld_hi sw
  obtain ⟨s, s1, s2, s3⟩ := iN_to h.2.2.2.2.1
  have E := env_J h
  unfold fX8_lives fX9_lives
  rcases refu (x1 := a1) (x2 := a2) h s1 with ⟨v, v0, v1, v2⟩ | ⟨v1, hw, p, hp, rfl, hd⟩
  · refine ⟨v, μ, μ, by rw [v1, bd_some, if_neg v0]; rfl, ?_, hI⟩
    rw [m_isPerson hm ho, bd_some]
    rcases v2 with ⟨rfl, e⟩ | ⟨rfl, e, e2⟩ | ⟨rfl, e2, p, hp, rfl, hd⟩
    · rw [e, bI_f, if_pos rfl]
    · rw [e, bI_t, if_neg one_ne0, in_e, bd_some, e2, bI_f, if_pos rfl]
    · rw [(isC_t (by omega)).mpr ⟨p, hp, rfl⟩, bI_t, if_neg one_ne0, in_e, bd_some, e2, bI_t, if_neg one_ne0, show (18 : Int32) + nI p = nI (18 + p) from nI_add 18 p, ag_n (by omega) (by omega), s2.2.1 p (by omega), if_pos hd]
  · obtain ⟨t, -, ht, rfl⟩ := (wi_n (a := 0) (b := 1) (by omega) (by omega)).mp hw
    have et : (if nI t = (1 : Int32) then some (1 : Int32) else some 0) = some (bI (decide (t = 1))) := by
      have : t = 0 ∨ t = 1 := by omega
      rcases this with rfl | rfl <;> rfl
    have hv := s3.2.1
    have cls := for_R (lp := fun fu i (y : Int32 × ic_M) => lpX7_breakingSteps_14 (ic_ld sw) 4 (nI p) (bI (decide (t = 1))) (bs (goS W (W * H) (colN W (μ 94 (2 * p))) (sP s p) (sI s)) (W * H)) fu y.1 (nI i) y.2) (Q := fun y => y.1 = bs (lvF (μ 94) W H S P s p (decide (t = 1))) (W * H) ∧ ∀ b, ¬ (58 ≤ b ∧ b ≤ 60) → y.2 b = μ b) (W * H) (by omega) (fun i y => y.1 = bs (lvF (μ 94) W H S P s p (decide (t = 1))) i ∧ ∀ b, ¬ (58 ≤ b ∧ b ≤ 60) → y.2 b = μ b) (fun fu i y hi hI2 => by
      obtain ⟨i1, i2⟩ := hI2
      have e1 : env (ic_ld sw) y.2 (μ 94) W H S P := env_fr (fun b hb => i2 b (by omega)) E
      have hA : icA y.2 4 s := icA_fr (i2 4 (by omega)) (i2 5 (by omega)) (i2 6 (by omega)) s1
      obtain ⟨m1, k1, k2, k3⟩ := c_copy (a := 58) (b := 4) (Or.inr (by omega)) hA
      have e2 : env (ic_ld sw) m1 (μ 94) W H S P := env_fr (fun b hb => k3 b (by omega) (by omega) (by omega)) e1
      obtain ⟨m2, j1, j2, j3⟩ := c_go (x := nI i) e2 k2 (by omega) hp (Or.inr (Or.inr ⟨i, hi, rfl⟩)) hv
      have hle : nbS (μ 94) W H S P (putS s p (nI i)) ≤ W * H := cnt_le _ _
      cases hg : goS W (W * H) (colN W (μ 94 (2 * p))) (sP s p) (sI s) i
      · refine ⟨(y.1, y.2), ?_, ?_, i2⟩
        · rw [lpX7_breakingSteps_14, e1.1.2.1.2.2.2.1, if_neg (nI_ge hi (by omega)), isIn_e _ (by omega), bd_some, bs_lo (by omega) hi, hg, bI_f, if_pos rfl, bd_some, lt_e, nI_1]
        · rw [← bs_push i1, if_neg (by simp [lvF, hg])]
      · refine ⟨(if lvF (μ 94) W H S P s p (decide (t = 1)) i = true then y.1 ||| ((1 : Int32) <<< (nI i &&& 31)) else y.1, m2), ?_, bs_push i1, fun b hb => by
          show m2 b = μ b
          rw [j3 b (by omega) (by omega) (by omega), k3 b (by omega) (by omega) (by omega), i2 b hb]⟩
        rw [lpX7_breakingSteps_14, e1.1.2.1.2.2.2.1, if_neg (nI_ge hi (by omega)), isIn_e _ (by omega), bd_some, bs_lo (by omega) hi, hg, bI_t, if_neg one_ne0, k1, bd_some, j1, bd_some]
        dsimp only
        rw [c_place (by omega), bd_some, j2.2.1 p (by omega)]
        have ed : (if sP (goR (μ 94) W H S P s p (nI i)) p = -2 then some (1 : Int32) else some 0) = some (bI (decide (sP (goR (μ 94) W H S P s p (nI i)) p = -2))) := by
          by_cases hz : sP (goR (μ 94) W H S P s p (nI i)) p = -2
          · rw [if_pos hz, decide_eq_true hz]; rfl
          · rw [if_neg hz, decide_eq_false hz]; rfl
        rw [ed, bd_some]
        by_cases hb : 0 < nbS (μ 94) W H S P (putS s p (nI i))
        · rw [if_neg (nI_nle hb (by omega))]
          by_cases hq : decide (sP (goR (μ 94) W H S P s p (nI i)) p = -2) = decide (t = 1)
          · rw [if_pos (congrArg bI hq), lt_e, bd_some, lt_e, nI_1, if_pos (by unfold lvF; rw [hg, decide_eq_true hb, hq]; simp)]
          · have hq2 : ¬ bI (decide (sP (goR (μ 94) W H S P s p (nI i)) p = -2)) = bI (decide (t = 1)) := fun e => by
              apply hq
              revert e
              cases decide (sP (goR (μ 94) W H S P s p (nI i)) p = -2) <;> cases decide (t = 1) <;> decide
            rw [if_neg hq2, bd_some, lt_e, nI_1, if_neg (by
              unfold lvF
              rw [hg, decide_eq_true hb]
              simpa using hq)]
        · rw [if_pos (show nI (nbS (μ 94) W H S P (putS s p (nI i))) ≤ 0 by rw [show nbS (μ 94) W H S P (putS s p (nI i)) = 0 by omega]; decide), bd_some, lt_e, nI_1, if_neg (by
            unfold lvF
            rw [decide_eq_false hb]; simp)]) (fun fu y hI2 => ⟨y, by
      rw [lpX7_breakingSteps_14, hI2.2 (ic_ld sw) (by omega), hr.2.2.2.1, if_pos (by exact nI_le (Nat.le_refl _) (by omega))], hI2⟩) (0, μ) ⟨rfl, fun _ _ => rfl⟩
    obtain ⟨y1, c1, c2, c3⟩ := cls
    have c1 : lpX7_breakingSteps_14 (ic_ld sw) 4 (nI p) (bI (decide (t = 1))) (bs (goS W (W * H) (colN W (μ 94 (2 * p))) (sP s p) (sI s)) (W * H)) 1000 0 0 μ = some y1 := c1
    have mdl := for_R (lp := fun fu i (y : Int32 × ic_M) => lpX9_lives_45 (nI p) (nI t) fu y.1 (nI i) y.2) (Q := fun y => y.1 = bs (lvF (μ 94) W H S P s p (decide (t = 1))) (W * H) ∧ ∀ b, b ≠ 99 → y.2 b = y1.2 b) (W * H) (by omega) (fun i y => y.1 = bs (lvF (μ 94) W H S P s p (decide (t = 1))) i ∧ ∀ b, b ≠ 99 → y.2 b = y1.2 b) (fun fu i y hi hI2 => by
      obtain ⟨i1, i2⟩ := hI2
      have f : ∀ b, b ≠ 99 → ¬ (58 ≤ b ∧ b ≤ 60) → y.2 b = μ b := fun b h1 h2 => by rw [i2 b h1, c3 b h2]
      have e1 : env (ic_ld sw) y.2 (μ 94) W H S P := env_fr (fun b hb => f b (by omega) (by omega)) E
      have hA : rwA y.2 98 s := rwA_fr (f 98 (by omega) (by omega)) s2
      obtain ⟨m1, k1, k2, k3⟩ := m_tries hA
      have e2 : env (ic_ld sw) m1 (μ 94) W H S P := env_fr (fun b hb => k3 b (by omega)) e1
      obtain ⟨m2, j1, j2, j3⟩ := m_steps (x := nI i) e2 (Or.inr rfl) k2 s3.1 hp (Or.inr (Or.inr ⟨i, hi, rfl⟩)) hv
      have hle : nbS (μ 94) W H S P (putS s p (nI i)) ≤ W * H := cnt_le _ _
      have hdr := lv_drown (q := μ 94) (S := S) (s := s) hN hp hi
      rw [lpX9_lives_45, m_cells e1.1.2.2.1, bd_some, if_neg (nI_ge hi (by omega)), m_canC e1 il_m.1 hA s3.1 hp (hv p hp) hi, bd_some]
      cases hg : goS W (W * H) (colN W (μ 94 (2 * p))) (sP s p) (sI s) i
      · refine ⟨(y.1, y.2), ?_, ?_, i2⟩
        · rw [bI_f, if_pos rfl, bd_some, lt_e, nI_1]
        · rw [← bs_push i1, if_neg (by simp [lvF, hg])]
      · refine ⟨(if lvF (μ 94) W H S P s p (decide (t = 1)) i = true then y.1 ||| ((1 : Int32) <<< (nI i &&& 31)) else y.1, m2), ?_, bs_push i1, fun b hb => by show m2 b = y1.2 b; rw [j3 b hb, k3 b hb, i2 b hb]⟩
        rw [bI_t, if_neg one_ne0, k1, bd_some, j1, bd_some]
        dsimp only
        have g99 : ∀ {α : Type} (T : Int32 → Option α), ic_ag m2 99 28 (nI (18 + p)) T = T (sP (goR (μ 94) W H S P s p (nI i)) p) := fun T => by rw [ag_n (by omega) (by omega), j2.2.1 p (by omega)]
        simp only [show (18 : Int32) + nI p = nI (18 + p) from nI_add 18 p, g99]
        have elv : lvF (μ 94) W H S P s p (decide (t = 1)) i = (decide (0 < nbS (μ 94) W H S P (putS s p (nI i))) && (decide (sP (goR (μ 94) W H S P s p (nI i)) p = -2) == decide (t = 1))) := by unfold lvF; rw [hg]; rfl
        rw [elv]
        have ht2 : t = 0 ∨ t = 1 := by omega
        by_cases hz : sP (goR (μ 94) W H S P s p (nI i)) p = -2
        · have hb := hdr hz
          rw [if_neg (nI_nle hb (by omega)), bd_some, if_pos hz, bd_some]
          rcases ht2 with rfl | rfl
          · simp [hb, hz, nI_0, bd_some, lt_e, nI_1, show ¬ (0 : Int32) = 1 by decide]
          · simp [hb, hz, bd_some, lt_e, nI_1, show nI 1 = 1 from rfl]
        · by_cases hb : 0 < nbS (μ 94) W H S P (putS s p (nI i))
          · rw [if_neg (nI_nle hb (by omega)), bd_some, if_neg hz, bd_some]
            rcases ht2 with rfl | rfl
            · simp [hb, hz, nI_0, bd_some, lt_e, nI_1]
            · simp [hb, hz, bd_some, lt_e, nI_1, show nI 1 = 1 from rfl]
          · rw [if_pos (show nI (nbS (μ 94) W H S P (putS s p (nI i))) ≤ 0 by rw [show nbS (μ 94) W H S P (putS s p (nI i)) = 0 by omega]; decide), bd_some, if_neg hz, bd_some]
            rcases ht2 with rfl | rfl
            · simp [hb, nI_0, bd_some, lt_e, nI_1]
            · simp [hb, bd_some, lt_e, nI_1, show nI 1 = 1 from rfl]) (fun fu y hI2 => ⟨y, by
      have e1 : mR y.2 W H S P := mR_fr (by rw [hI2.2 92 (by omega), c3 92 (by omega)]) hm
      rw [lpX9_lives_45, m_cells e1, bd_some, if_pos (by exact nI_le (Nat.le_refl _) (by omega))], hI2⟩) (0, y1.2) ⟨rfl, fun _ _ => rfl⟩
    obtain ⟨y2, d1, d2, d3⟩ := mdl
    have d1 : lpX9_lives_45 (nI p) (nI t) 1000 0 0 y1.2 = some y2 := d1
    refine ⟨bs (lvF (μ 94) W H S P s p (decide (t = 1))) (W * H), y1.2, y2.2, ?_, ?_, J_tr hI (fun b h1 h2 h3 h4 h5 => by rw [d3 b h4, c3 b (by omega)])⟩
    · unfold fX7_breakingSteps
      rw [v1, bd_some, if_pos rfl, et, bd_some, c_ways E s1 hp (hv p hp), bd_some, c1, bd_some, bd_some, bd_some, ← c2]
    · rw [m_isPerson (mR_fr (c3 92 (by omega)) hm) ho, bd_some, (isC_t (by omega)).mpr ⟨p, hp, rfl⟩, bI_t, if_neg one_ne0, in_e, bd_some, hw, bI_t, if_neg one_ne0, show (18 : Int32) + nI p = nI (18 + p) from nI_add 18 p, ag_n (by omega) (by omega), c3 98 (by omega), s2.2.1 p (by omega), if_neg hd, d1, bd_some, ← d2]
