/-! ===== the model's breaking ===== -/
theorem up_same (μ : ic_M) (r k : Nat) : ic_up μ r k (μ r k) = μ := by
  funext b j
  unfold ic_up
  by_cases h : b = r ∧ j = k
  · rw [if_pos h, h.1, h.2]
  · rw [if_neg h]
/-- the memory behind a round, of a row r -/
def mB (μ : ic_M) (r N P : Nat) (f : Nat → Bool) : ic_M := pm (pm μ r 0 f (fun _ => 0) N) r 18 (fun p => inS (bs f N) (μ r (18 + p))) (fun _ => -2) P
theorem mB_pl {μ : ic_M} {r N P p : Nat} {f : Nat → Bool} (hN : N ≤ 18) (hp : p < P) : mB μ r N P f r (18 + p) = if inS (bs f N) (μ r (18 + p)) = true then -2 else μ r (18 + p) := by
  unfold mB
  rw [pm_in hp, pm_ge (by omega)]
theorem mB_in {μ : ic_M} {r N P c : Nat} {f : Nat → Bool} (hN : N ≤ 18) (hc : c < N) : mB μ r N P f r c = if f c = true then 0 else μ r c := by
  unfold mB
  rw [pm_ge (by omega), pm_in0 hc]
theorem mB_ge {μ : ic_M} {r N P k : Nat} {f : Nat → Bool} (h : (N ≤ k ∧ k < 18) ∨ 18 + P ≤ k) (hN : N ≤ 18) : mB μ r N P f r k = μ r k := by
  unfold mB
  rw [pm_ge (by omega), pm_ge (by omega)]
theorem mB_ne {μ : ic_M} {r N P b : Nat} {f : Nat → Bool} (h1 : b ≠ r) (k : Nat) : mB μ r N P f b k = μ b k := by
  unfold mB
  rw [pm_ne h1, pm_ne h1]
theorem mB_none {μ : ic_M} {r N P : Nat} {f : Nat → Bool} (hN : N ≤ 31) (h : ∀ c, c < N → f c = false) : mB μ r N P f = μ := by
  unfold mB
  rw [(bs_zero hN).mpr h, pm_none h, pm_none (fun j _ => inS_0 _)]
/-- y is one of those below i of which f holds -/
def inL (f : Nat → Bool) (i : Nat) (y : Int32) : Bool := decide (¬ y < 0) && decide (y.toNatClampNeg < i) && f y.toNatClampNeg
theorem inL_n {f : Nat → Bool} {i c : Nat} (h : c < 2 ^ 31) : inL f i (nI c) = (decide (c < i) && f c) := by
  simp [inL, nI_pos h, nI_clamp h]
theorem inL_neg {f : Nat → Bool} {i : Nat} {y : Int32} (h : y < 0) : inL f i y = false := by simp [inL, h]
theorem inL_bs {f : Nat → Bool} {N : Nat} {y : Int32} (hN : N ≤ 18) : inL f N y = inS (bs f N) y := by
  by_cases h : y < 0
  · rw [inL_neg h, inS_neg h]
  · obtain ⟨k, hk, rfl⟩ := nI_of h
    rw [inL_n hk]
    by_cases hk2 : k < 31
    · rw [inS_n hk2, bs_bt (by omega) (by omega)]
    · simp [inS, nI_clamp hk, hk2, show ¬ k < N by omega]
def mM (μ : ic_M) (r P : Nat) (f : Nat → Bool) (i : Nat) : ic_M := pm (pm μ r 0 f (fun _ => 0) i) r 18 (fun p => inL f i (μ r (18 + p))) (fun _ => -2) P
theorem mM_0 (μ : ic_M) (r P : Nat) (f : Nat → Bool) : mM μ r P f 0 = μ := by
  unfold mM
  rw [pm_0, pm_none]
  intro j _
  unfold inL
  simp
theorem mM_N {μ : ic_M} {r N P : Nat} {f : Nat → Bool} (hN : N ≤ 18) : mM μ r P f N = mB μ r N P f := by
  unfold mM mB
  exact pm_congr (fun j _ => ⟨inL_bs hN, rfl⟩)
theorem mM_f {μ : ic_M} {r P i : Nat} {f : Nat → Bool} (h : f i = false) : mM μ r P f i = mM μ r P f (i + 1) := by
  unfold mM
  rw [← pm_f (i := i) h]
  refine pm_congr (fun j _ => ⟨?_, rfl⟩)
  unfold inL
  by_cases hn : μ r (18 + j) < 0
  · simp [hn]
  · by_cases he : (μ r (18 + j)).toNatClampNeg = i
    · rw [he, h]; simp
    · have e : decide ((μ r (18 + j)).toNatClampNeg < i) = decide ((μ r (18 + j)).toNatClampNeg < i + 1) := decide_eq_decide.mpr (by omega)
      rw [e]
theorem mM_pl {μ : ic_M} {r P i p : Nat} {f : Nat → Bool} (hi : i ≤ 18) (hp : p < P) : mM μ r P f i r (18 + p) = if inL f i (μ r (18 + p)) = true then -2 else μ r (18 + p) := by
  unfold mM
  rw [pm_in hp, pm_ge (by omega)]
/-- one cell more: its inches go, who is on it drowns -/
theorem mM_t {μ : ic_M} {r P i : Nat} {f : Nat → Bool} (hi : i < 18) (h : f i = true) : pm (ic_up (mM μ r P f i) r i 0) r 18 (fun p => decide (mM μ r P f i r (18 + p) = nI i)) (fun _ => -2) P = mM μ r P f (i + 1) := by
  funext b k
  by_cases hb : b = r
  · subst hb
    rcases Nat.lt_or_ge k 18 with hk | hk
    · rw [pm_ge (Or.inl hk)]
      by_cases hki : k = i
      · subst hki
        have e1 : ic_up (mM μ b P f k) b k 0 b k = 0 := by simp [ic_up]
        rw [e1]
        unfold mM
        rw [pm_ge (Or.inl hk), pm_in0 (by omega), if_pos h]
      · have e1 : ic_up (mM μ b P f i) b i 0 b k = mM μ b P f i b k := by simp [ic_up, hki]
        rw [e1]
        unfold mM
        rw [pm_ge (Or.inl hk), pm_ge (Or.inl hk)]
        rcases Nat.lt_or_ge k i with h1 | h1
        · rw [pm_in0 h1, pm_in0 (by omega)]
        · rw [pm_ge (by omega), pm_ge (by omega)]
    · obtain ⟨p, rfl⟩ : ∃ p, k = 18 + p := ⟨k - 18, by omega⟩
      rcases Nat.lt_or_ge p P with hp | hp
      · rw [pm_in hp, mM_pl (by omega) hp]
        have e1 : ic_up (mM μ b P f i) b i 0 b (18 + p) = mM μ b P f i b (18 + p) := by
          have : ¬ 18 + p = i := by omega
          simp [ic_up, this]
        rw [e1, mM_pl (by omega) hp, mM_pl (i := i + 1) (by omega) hp]
        generalize μ b (18 + p) = y
        by_cases hy : y < 0
        · rw [inL_neg hy, inL_neg hy]
          have : ¬ y = nI i := fun e => nI_pos (show i < 2 ^ 31 by omega) (e ▸ hy)
          simp [this]
        · obtain ⟨c, hc, rfl⟩ := nI_of hy
          rw [inL_n hc, inL_n hc]
          by_cases hci : c = i
          · subst hci
            simp [h]
          · have hne : ¬ nI c = nI i := fun e => hci ((nI_eq hc (by omega)).mp e)
            have e : decide (c < i + 1) = decide (c < i) := decide_eq_decide.mpr (by omega)
            rw [e]
            cases hd : (decide (c < i) && f c)
            · simp [hne]
            · simp
      · rw [pm_ge (by omega)]
        have e1 : ic_up (mM μ b P f i) b i 0 b (18 + p) = mM μ b P f i b (18 + p) := by
          have : ¬ 18 + p = i := by omega
          simp [ic_up, this]
        rw [e1]
        unfold mM
        rw [pm_ge (by omega), pm_ge (by omega), pm_ge (by omega), pm_ge (by omega)]
  · rw [pm_ne hb]
    have e1 : ic_up (mM μ r P f i) r i 0 b k = mM μ r P f i b k := by simp [ic_up, hb]
    rw [e1]
    unfold mM
    rw [pm_ne hb, pm_ne hb, pm_ne hb, pm_ne hb]
section MBR
variable {μ : ic_M} {r W H S P : Nat}
theorem m_drown1 {m : ic_M} {c : Nat} {x2 x3 x4 : Int32} (hr : ic_il 106 r = 28) (h92 : r ≠ 92) (hm : m 92 3 = nI P) (hP : P ≤ 6) (hc : c < 18) : lpX9_breaks_47 r x2 x3 x4 (nI c) 1000 0 m = some (pm m r 18 (fun p => decide (m r (18 + p) = nI c)) (fun _ => -2) P) := by
  have key := for_M (lp := fun fu i m => lpX9_breaks_47 r x2 x3 x4 (nI c) fu (nI i) m) (M := pm m r 18 (fun p => decide (m r (18 + p) = nI c)) (fun _ => -2)) (fin := some (pm m r 18 (fun p => decide (m r (18 + p) = nI c)) (fun _ => -2) P)) P (by omega) ?_ ?_
  · rw [pm_0] at key
    exact key
  · intro fu i hi
    have e18 : (18 : Int32) + nI i = nI (18 + i) := nI_add 18 i
    rw [lpX9_breaks_47, show ∀ q, ic_ag q 92 7 (3 : Int32) = ic_ag q 92 7 (nI 3) from fun _ => rfl, m_ag92 (by omega), pm_ne (fun e => h92 e.symm), hm, if_neg (nI_ge hi (by omega)), hr, e18, ag_n (by omega) (by omega), pm_ge (by omega)]
    simp only [lt_e, show nI i + 1 = nI (i + 1) from nI_1 i]
    by_cases h : m r (18 + i) = nI c
    · rw [if_pos h, bd_some, as_n (by omega) (by omega), ← pm_t (i := i) (by simpa using h)]
    · rw [if_neg h, ag_n (by omega) (by omega), pm_ge (by omega), bd_some, as_n (by omega) (by omega), ← pm_f (i := i) (by simpa using h)]
      rw [show m r (18 + i) = pm m r 18 (fun p => decide (m r (18 + p) = nI c)) (fun _ => -2) i r (18 + i) from (pm_ge (by omega)).symm, up_same]
  · intro fu
    rw [lpX9_breaks_47, show ∀ q, ic_ag q 92 7 (3 : Int32) = ic_ag q 92 7 (nI 3) from fun _ => rfl, m_ag92 (by omega), pm_ne (fun e => h92 e.symm), hm, if_pos (by exact nI_le (Nat.le_refl _) (by omega))]
theorem m_round {f : Nat → Bool} {x2 : Int32} (hr : ic_il 106 r = 28) (h92 : r ≠ 92) (hm : mR μ W H S P) (ho : rOK W H S P) : lpX9_breaks_17 r x2 (bs f (W * H)) 1000 0 0 μ = some (nI (cnt f (W * H)), mB μ r (W * H) P f) := by
  have hN := rOK_N ho
  have hP := rOK_P ho
  have hmi : ∀ i, mR (mM μ r P f i) W H S P := fun i => by
    refine ⟨?_, ?_, ?_, ?_⟩ <;> (unfold mM; rw [pm_ne (fun e => h92 e.symm), pm_ne (fun e => h92 e.symm)])
    · exact hm.1
    · exact hm.2.1
    · exact hm.2.2.1
    · exact hm.2.2.2
  have key := for_M (lp := fun fu i (s : Int32 × ic_M) => lpX9_breaks_17 r x2 (bs f (W * H)) fu s.1 (nI i) s.2) (M := fun i => (nI (cnt f i), mM μ r P f i)) (fin := some (nI (cnt f (W * H)), mB μ r (W * H) P f)) (W * H) (by omega) ?_ ?_
  · rw [mM_0] at key
    exact key
  · intro fu i hi
    rw [lpX9_breaks_17, m_cells (hmi i), bd_some, if_neg (nI_ge hi (by omega)), has_e _ (by omega), bd_some, bs_bt (by omega) (by omega)]
    simp only [lt_e, bI_0, hi, decide_true, Bool.true_and, show nI i + 1 = nI (i + 1) from nI_1 i]
    cases hf : f i
    · rw [if_pos rfl, bd_some, ← mM_f hf]
      show _ = lpX9_breaks_17 r x2 _ fu (nI (cnt f i + cond (f i) 1 0)) _ _
      rw [hf]; rfl
    · rw [if_neg (by simp), hr, as_n (by omega) (by omega), m_drown1 hr h92 (by
        have : ¬ 92 = r := fun e => h92 e.symm
        simp only [ic_up, this, false_and, if_false]
        exact (hmi i).2.2.2) hP (by omega), bd_some]
      have e : ∀ p, ic_up (mM μ r P f i) r i 0 r (18 + p) = mM μ r P f i r (18 + p) := fun p => by
        have : ¬ 18 + p = i := by omega
        simp [ic_up, this]
      simp only [e, mM_t (show i < 18 by omega) hf, bd_some]
      show _ = lpX9_breaks_17 r x2 _ fu (nI (cnt f i + cond (f i) 1 0)) _ _
      rw [hf, show nI (cnt f i) + 1 = nI (cnt f i + 1) from nI_1 _]; rfl
  · intro fu
    rw [lpX9_breaks_17, m_cells (hmi _), bd_some, if_pos (by exact nI_le (Nat.le_refl _) (by omega)), mM_N hN]
theorem m_break {x2 : Int32} (hr : ic_il 106 r = 28) (h92 : r ≠ 92) (h94 : r ≠ 94) (hm : mR μ W H S P) (ho : rOK W H S P) (hg : gI (μ r)) (hw : gW P (fun p => μ 94 (2 * p + 1))) (hp : ∀ p, p < P → vP (W * H) (μ r (18 + p))) {f : Nat → Bool} (hf : f = ovl W (W * H) P S (fun p => μ 94 (2 * p + 1)) (fun p => μ r (18 + p)) (μ r)) :
    Option.bind (fX9_breaking μ r) (fun v => lpX9_breaks_9 r x2 1000 0 v μ) = some (nI (cnt f (W * H)), mB μ r (W * H) P f) := by
  have hN := rOK_N ho
  have hP := rOK_P ho
  rw [m_ovl hr hm ho hg hp, bd_some, ← hf, lpX9_breaks_9]
  by_cases hz : ∀ c, c < W * H → f c = false
  · rw [(bs_zero (by omega)).mpr hz, if_pos rfl, cnt_0 hz, mB_none (by omega) hz]; rfl
  · have hbs : ¬ bs f (W * H) = 0 := fun e => hz ((bs_zero (by omega)).mp e)
    rw [if_neg hbs, m_round hr h92 hm ho, bd_some]
    have hm' : mR (mB μ r (W * H) P f) W H S P := by
      refine ⟨?_, ?_, ?_, ?_⟩ <;> rw [mB_ne (fun e => h92 e.symm)]
      · exact hm.1
      · exact hm.2.1
      · exact hm.2.2.1
      · exact hm.2.2.2
    have hg' : gI (mB μ r (W * H) P f r) := by
      intro c hc
      rcases Nat.lt_or_ge c (W * H) with h | h
      · rw [mB_in hN h]
        split
        · exact ⟨0, by omega, rfl⟩
        · exact hg c hc
      · rw [mB_ge (Or.inl ⟨h, hc⟩) hN]; exact hg c hc
    have hp' : ∀ p, p < P → vP (W * H) (mB μ r (W * H) P f r (18 + p)) := by
      intro p hpp
      rw [mB_pl hN hpp]
      split
      · exact Or.inl rfl
      · exact hp p hpp
    have e94 : ∀ k, mB μ r (W * H) P f 94 k = μ 94 k := fun k => mB_ne (fun e => h94 e.symm) k
    have hz2 : ∀ c, c < W * H → ovl W (W * H) P S (fun p => mB μ r (W * H) P f 94 (2 * p + 1)) (fun p => mB μ r (W * H) P f r (18 + p)) (mB μ r (W * H) P f r) c = false := by
      simp only [e94]
      refine ovl_again (f := f) hP hN hw (fun c hc => by rw [hf]) (fun c hc => mB_in hN hc) (fun p hpp => ?_)
      rw [mB_pl hN hpp]
      exact vP_of (hp p hpp)
    rw [m_ovl hr hm' ho hg' hp', bd_some, (bs_zero (by omega)).mpr hz2, lpX9_breaks_9, if_pos rfl]
end MBR
