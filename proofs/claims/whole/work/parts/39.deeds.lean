/-! ===== night ===== -/
def nS (μ0 : ic_M) (q : Nat → Int32) (W H S P : Nat) (s : iceS) (i : Nat) : iceS := itr (fun _ s => pasS μ0 q W H S P s) 0 i s
theorem nS_0 (μ0 : ic_M) (q : Nat → Int32) (W H S P : Nat) (s : iceS) : nS μ0 q W H S P s 0 = s := rfl
theorem nS_1 (μ0 : ic_M) (q : Nat → Int32) (W H S P : Nat) (s : iceS) (i : Nat) : nS μ0 q W H S P s (i + 1) = pasS μ0 q W H S P (nS μ0 q W H S P s i) := by
  unfold nS
  rw [itr_succ]
theorem nS_g {μ0 : ic_M} {q : Nat → Int32} {W H S P k : Nat} {s : iceS} (hP : P ≤ 6) (hN : W * H ≤ 18) (g : gS s (W * H) P) (hk : sNi s = nI k) (hk2 : k ≤ 9000) : ∀ i, i ≤ 60 → gS (nS μ0 q W H S P s i) (W * H) P ∧ sNi (nS μ0 q W H S P s i) = nI (k + i)
  | 0, _ => ⟨g, hk⟩
  | i + 1, hi => by
    obtain ⟨h1, h2⟩ := nS_g (μ0 := μ0) (q := q) (S := S) hP hN g hk hk2 i (by omega)
    rw [nS_1]
    exact gS_pas (k := k + i) hP hN h1 h2 (by omega)
theorem c_bar {sw : Nat} {μ : ic_M} {W H S P : Nat} {x : Int32} (h : ic_J (ic_ld sw) μ W H S P) : ∃ v : Int32, fX8_refusalOfNights sw μ x = some v ∧ fX9_barred μ x = some v ∧ (v = 0 → (∃ n, 1 ≤ n ∧ n ≤ 60 ∧ x = nI n) ∧ 0 < W ∧ ∃ k, k ≤ 9000 ∧ μ 98 26 = nI k) := by
  obtain ⟨ho, hr, hm, hl, -⟩ := h.1
  obtain ⟨⟨-, -, q1, q2, q3, q4⟩, g⟩ := h.2.2.2.2.1
  have q3 : μ 4 3 = μ 98 26 := q3
  unfold fX8_refusalOfNights fX9_barred
  rw [wi_e, bd_some, in_e, bd_some]
  cases hw : wi x 1 60
  · exact ⟨-1000000002, by rw [bI_f, if_pos rfl], by rw [bI_f, if_pos rfl]; rfl, fun e => absurd e (by decide)⟩
  · rw [bI_t, if_neg one_ne0, if_neg one_ne0, c_noRiver hr ho, bd_some, m_isRiver hm ho, bd_some]
    obtain ⟨n, n1, n2, rfl⟩ := (wi_n (a := 1) (b := 60) (by omega) (by omega)).mp hw
    by_cases hW : W = 0
    · exact ⟨-1000000003, by simp [hW, bI], by simp [hW, bI, bd_some], fun e => absurd e (by decide)⟩
    · obtain ⟨k, hk, ek⟩ := g.2.2.2.1
      have ek : μ 98 26 = nI k := ek
      rw [show ic_ag μ 98 28 (26 : Int32) = ic_ag μ 98 28 (nI 26) from rfl, ag_n (by omega) (by omega), q3, ek]
      by_cases h9 : k ≤ 9000
      · have e9 : nI k ≤ (9000 : Int32) := nI_le (b := 9000) h9 (by omega)
        exact ⟨0, by simp [hW, bI, bd_some, e9], by simp [hW, bI, bd_some, e9], fun _ => ⟨⟨n, n1, n2, rfl⟩, by omega, k, h9, rfl⟩⟩
      · have e9 : ¬ nI k ≤ (9000 : Int32) := nI_ge (a := 9000) (by omega) (by omega)
        exact ⟨-1000000004, by simp [hW, bI, bd_some, e9], by simp [hW, bI, bd_some, e9], fun e => absurd e (by decide)⟩
/-- the reference's bars look at the same things behind the class's deed -/
theorem bar_fr {μ μ1 : ic_M} {x : Int32} (h1 : μ1 92 = μ 92) (h2 : μ1 98 = μ 98) : fX9_barred μ1 x = fX9_barred μ x := by
  unfold fX9_barred fX9_isRiver fX9_in ic_ag
  rw [h1, h2]
theorem pu_night {sw : Nat} {μ : ic_M} (hI : ic_I sw μ) (a1 : Int32) : ∃ (v : Int32) (μ1 : ic_M) (μ2 : ic_M), fX8_night sw μ a1 = some (v, μ1) ∧ fX9_night μ1 a1 = some (v, μ2) ∧ ic_I sw μ2 := by
  obtain ⟨W, H, S, P, h⟩ := id hI
  have ho := h.1.1
  have hN := rOK_N ho
  have hP := rOK_P ho
  obtain ⟨v0, b1, b2, b3⟩ := c_bar (x := a1) h
  unfold fX8_night fX9_night
  rw [b1, bd_some]
  by_cases hv : v0 = 0
  · obtain ⟨⟨n, n1, n2, rfl⟩, hW, k, hk, ek⟩ := b3 hv
    rw [if_pos hv]
    refine deedK h (A := fun m22 => Option.bind (lpX8_night_25 sw (nI n) 1000 (0 : Int32) m22) (fun q25 => some ((q25 4 3), q25))) (B := fun m22 => Option.bind (lpX9_night_18 (nI n) 1000 (0 : Int32) m22) (fun q25 => ic_ag q25 98 28 (26 : Int32) (fun v26 => some (v26, q25)))) (fun s s1 s2 g => ⟨nS μ (μ 94) W H S P s n, nI (k + n), ?_, fun m e l1 l2 hA => ?_, fun m e l1 l2 hA => ?_⟩) (fun v μ1 μ2 e1 e2 e3 e4 => ⟨v, μ1, μ2, e1, by rw [bar_fr (e3 92 (by omega) (by omega) (by omega)) (e3 98 (by omega) (by omega) (by omega)), b2, bd_some, if_pos hv]; exact e2, e4⟩)
    · exact (nS_g hP hN g (by rw [← s2.2.2.2.1]; exact ek) hk n n2).1
    · have hk3 : sNi s = nI k := by rw [← s2.2.2.2.1]; exact ek
      have hg := nS_g (μ0 := μ) (q := μ 94) (S := S) hP hN g hk3 hk
      have := for_R (lp := fun fu i x => lpX8_night_25 sw (nI n) fu (nI i) x) (Q := fun m' => icA m' 4 (nS μ (μ 94) W H S P s n) ∧ ∀ b, ¬ (4 ≤ b ∧ b ≤ 6) → m' b = m b) n (by omega) (fun i m' => icA m' 4 (nS μ (μ 94) W H S P s i) ∧ ∀ b, ¬ (4 ≤ b ∧ b ≤ 6) → m' b = m b) (fun fu i m' hi hI2 => by
        obtain ⟨i1, i2⟩ := hI2
        obtain ⟨g1, g2⟩ := hg i (by omega)
        obtain ⟨m'', j1, j2, j3⟩ := c_pass (μ0 := μ) (env_fr (fun b hb => i2 b (by omega)) e) (by rw [i2 92 (by omega), l1]) (by rw [i2 93 (by omega), l2]) hW (by omega) i1 g1.1 g1.2.1 g2 (by omega)
        refine ⟨m'', ?_, ?_, fun b hb => by rw [j3 b (by omega) (by omega) (by omega), i2 b hb]⟩
        · rw [lpX8_night_25, if_neg (nI_ge hi (by omega)), j1, bd_some, lt_e, nI_1]
        · rw [nS_1]; exact j2) (fun fu m' hI2 => ⟨m', by
        rw [lpX8_night_25, if_pos (by exact nI_le (Nat.le_refl _) (by omega))], hI2⟩) m ⟨hA, fun _ _ => rfl⟩
      obtain ⟨m', j1, j2, j3⟩ := this
      have j1 : lpX8_night_25 sw (nI n) 1000 0 m = some m' := j1
      exact ⟨m', by rw [j1, bd_some, j2.2.2.2.1, (hg n n2).2], j2, j3⟩
    · have hk3 : sNi s = nI k := by rw [← s2.2.2.2.1]; exact ek
      have hg := nS_g (μ0 := μ) (q := μ 94) (S := S) hP hN g hk3 hk
      have := for_R (lp := fun fu i x => lpX9_night_18 (nI n) fu (nI i) x) (Q := fun m' => rwA m' 98 (nS μ (μ 94) W H S P s n) ∧ ∀ b, b ≠ 98 → m' b = m b) n (by omega) (fun i m' => rwA m' 98 (nS μ (μ 94) W H S P s i) ∧ ∀ b, b ≠ 98 → m' b = m b) (fun fu i m' hi hI2 => by
        obtain ⟨i1, i2⟩ := hI2
        obtain ⟨g1, g2⟩ := hg i (by omega)
        obtain ⟨m'', j1, j2, j3⟩ := m_pass (μ0 := μ) (env_fr (fun b hb => i2 b (by omega)) e) (by rw [i2 92 (by omega), l1]) (by rw [i2 93 (by omega), l2]) hW (Or.inl rfl) i1 g1.1 g1.2.1 g2 (by omega)
        refine ⟨m'', ?_, ?_, fun b hb => by rw [j3 b hb, i2 b hb]⟩
        · rw [lpX9_night_18, if_neg (nI_ge hi (by omega)), j1, bd_some, lt_e, nI_1]
        · rw [nS_1]; exact j2) (fun fu m' hI2 => ⟨m', by
        rw [lpX9_night_18, if_pos (by exact nI_le (Nat.le_refl _) (by omega))], hI2⟩) m ⟨hA, fun _ _ => rfl⟩
      obtain ⟨m', j1, j2, j3⟩ := this
      have j1 : lpX9_night_18 (nI n) 1000 0 m = some m' := j1
      refine ⟨m', ?_, j2, j3⟩
      rw [j1, bd_some, show ic_ag m' 98 28 (26 : Int32) = ic_ag m' 98 28 (nI 26) from rfl, ag_n (by omega) (by omega), j2.2.2.2.1, (hg n n2).2]
  · exact ⟨v0, μ, μ, by rw [if_neg hv], by rw [b2, bd_some, if_neg hv], hI⟩
/-! ===== salt ===== -/
theorem clm_ow {q : Nat → Int32} {W H S P h n : Nat} {b sn ni ow br : Int32} {I L : Nat → Int32} (hb : ¬ b = -1) : clmS b n (brkS q W H S P (I, L, sn, ni, if 0 < h ∧ ow = -1 then b else ow, br)) = clmS b (h + n) (brkS q W H S P (I, L, sn, ni, ow, br)) := by
  have e : (if 0 < n ∧ (if 0 < h ∧ ow = -1 then b else ow) = -1 then b else (if 0 < h ∧ ow = -1 then b else ow)) = (if 0 < h + n ∧ ow = -1 then b else ow) := by
    by_cases h1 : ow = -1
    · by_cases h2 : 0 < h
      · have e1 : (if 0 < h ∧ ow = -1 then b else ow) = b := if_pos ⟨h2, h1⟩
        rw [e1, if_neg (fun h3 : 0 < n ∧ b = -1 => hb h3.2), if_pos ⟨by omega, h1⟩]
      · have e1 : (if 0 < h ∧ ow = -1 then b else ow) = ow := if_neg (fun h3 => h2 h3.1)
        rw [e1, show h + n = n by omega]
    · have e1 : (if 0 < h ∧ ow = -1 then b else ow) = ow := if_neg (fun h3 => h1 h3.2)
      rw [e1, if_neg (fun h3 : 0 < n ∧ ow = -1 => h1 h3.2), if_neg (fun h3 : 0 < h + n ∧ ow = -1 => h1 h3.2)]
  show (_, _, _, _, (if 0 < n ∧ (if 0 < h ∧ ow = -1 then b else ow) = -1 then b else (if 0 < h ∧ ow = -1 then b else ow)), _) = _
  rw [e]
  rfl
def setS (s : iceS) (c : Nat) (x : Int32) : iceS := (fun d => if d = c then x else sI s d, sP s, sSn s, sNi s, sOw s, sBr s)
/-- behind the salt, before the breaking: h is 1 if the cell is gone -/
def sltS (N P : Nat) (s : iceS) (c k n : Nat) : iceS := (sI (setS s c (nI (k - n))), sP (drwS N P (setS s c (nI (k - n)))), sSn s, sNi s, sOw s, sBr s + nI (if k ≤ n then 1 else 0))
theorem gS_slt {N P c k n : Nat} {s : iceS} (hN : N ≤ 18) (g : gS s N P) (hk : k ≤ 60) : gS (sltS N P s c k n) N P := by
  refine ⟨fun d hd => ?_, fun p hp => ?_, fun p hp d hd e => ?_, g.2.2.2.1, fun h0 p h1 h2 => ?_⟩
  · show ∃ x, x ≤ 60 ∧ (if d = c then nI (k - n) else sI s d) = nI x
    split
    · exact ⟨k - n, by omega, rfl⟩
    · exact g.1 d hd
  · show vP N (if p < P ∧ inS (bs (fun d => decide (sI (setS s c (nI (k - n))) d = 0)) N) (sP s p) = true then -2 else sP s p)
    split
    · exact Or.inl rfl
    · exact g.2.1 p hp
  · have e : (if p < P ∧ inS (bs (fun d => decide (sI (setS s c (nI (k - n))) d = 0)) N) (sP s p) = true then -2 else sP s p) = nI d := e
    show ¬ sI (setS s c (nI (k - n))) d = 0
    by_cases h : p < P ∧ inS (bs (fun d => decide (sI (setS s c (nI (k - n))) d = 0)) N) (sP s p) = true
    · rw [if_pos h] at e
      exact absurd e (m2_ne (by omega))
    · rw [if_neg h] at e
      intro h0
      exact h ⟨hp, by rw [e, inS_n (by omega), bs_lo (by omega) hd]; simp [h0]⟩
  · show (if p < P ∧ _ then -2 else sP s p) = -1
    rw [if_neg (by omega)]
    exact g.2.2.2.2 h0 p h1 h2
/-- by the salt those drown who stand there -/
theorem slt_drw {N P c k n p : Nat} {s : iceS} (hN : N ≤ 18) (g : gS s N P) (hc : c < N) (hp : p < P) : inS (bs (fun d => decide (sI (setS s c (nI (k - n))) d = 0)) N) (sP s p) = (decide (nI (k - n) = 0) && decide (sP s p = nI c)) := by
  rcases g.2.1 p hp with h | h | ⟨d, hd, h⟩
  · rw [h, inS_neg m2_lt]
    simp [m2_ne (show c < 2 ^ 31 by omega)]
  · rw [h, inS_neg m1_lt]
    simp [show ¬ (-1 : Int32) = nI c from fun e => m1_ne (by omega) e.symm]
  · rw [h, inS_n (by omega), bs_lo (by omega) hd]
    show decide ((if d = c then nI (k - n) else sI s d) = 0) = _
    by_cases hdc : d = c
    · subst hdc; simp
    · have h1 : ¬ nI d = nI c := fun e => hdc ((nI_eq (by omega) (by omega)).mp e)
      have h2 : ¬ sI s d = 0 := g.2.2.1 p hp d hd h
      simp [hdc, h1, h2]
theorem c_salt {sw : Nat} {m : ic_M} {q : Nat → Int32} {W H S P c k n : Nat} {s : iceS} {b : Int32} (e : env (ic_ld sw) m q W H S P) (hA : icA m 4 s) (g : gS s (W * H) P) (hc : c < W * H) (hk : k ≤ 60) (ek : sI s c = nI k) (hn : n ≤ 60) : ∃ m', fX1_strewSalt m 4 (ic_ld sw) b (nI c) (nI n) = some (nI ((if k ≤ n then 1 else 0) + nbS q W H S P (sltS (W * H) P s c k n)), m') ∧ icA m' 4 (clmS b ((if k ≤ n then 1 else 0) + nbS q W H S P (sltS (W * H) P s c k n)) (brkS q W H S P (sltS (W * H) P s c k n))) ∧ ∀ x, ¬ (4 ≤ x ∧ x ≤ 6) → m' x = m x := by
  have hN := rOK_N e.1.1
  have hP := rOK_P e.1.1
  have hl := ld_hi sw
  have em : (if (0 : Int32) < nI k - nI n then nI k - nI n else 0) = nI (k - n) := by
    by_cases h : n < k
    · rw [pk_sub (by omega), if_pos (show (0 : Int32) < nI (k - n) from nI_lt (a := 0) (by omega) (by omega))]
    · rw [if_neg (by
        rw [Int32.lt_iff_toInt_lt, pk_sub_toInt (by omega) (by omega), Int32.toInt_zero]; omega), show k - n = 0 by omega]
      rfl
  have hA1 : icA (ic_up m 5 c (nI (k - n))) 4 (setS s c (nI (k - n))) := by
    refine ⟨fun d hd => ?_, fun p hp => ?_, ?_, ?_, ?_, ?_⟩
    · show ic_up m 5 c (nI (k - n)) 5 d = if d = c then nI (k - n) else sI s d
      rw [ic_up_eq]
      by_cases h : d = c
      · rw [if_pos h, h, pk_us]
      · rw [if_neg h, pk_un h]; exact hA.1 d hd
    · rw [ic_up_ne (by omega)]; exact hA.2.1 p hp
    · rw [ic_up_ne (by omega)]; exact hA.2.2.1
    · rw [ic_up_ne (by omega)]; exact hA.2.2.2.1
    · rw [ic_up_ne (by omega)]; exact hA.2.2.2.2.1
    · rw [ic_up_ne (by omega)]; exact hA.2.2.2.2.2
  have e1 : env (ic_ld sw) (ic_up m 5 c (nI (k - n))) q W H S P := env_fr (fun b hb => ic_up_ne (by omega)) e
  have hole : fX1_isHole (ic_up m 5 c (nI (k - n))) 4 (nI c) = some (bI (decide (nI (k - n) = 0))) := by
    rw [c_hole (by omega), hA1.1 c (by omega)]
    show some (bI (decide ((if c = c then nI (k - n) else sI s c) = 0))) = _
    rw [if_pos rfl]
  have h0 : (nI (k - n) = 0) ↔ k ≤ n := by
    rw [show (0 : Int32) = nI 0 from rfl, nI_eq (by omega) (by omega)]; omega
  have mid : ∃ m2, Option.bind (if bI (decide (nI (k - n) = 0)) = 0 then some ((0 : Int32), ic_up m 5 c (nI (k - n))) else Option.bind (fX1_drownOn (ic_up m 5 c (nI (k - n))) 4 (ic_ld sw) ((1 : Int32) <<< (nI c &&& 31))) (fun m25 => ic_pu m25 4 5 ((m25 4 5) + (1 : Int32)) (fun m26 => some ((1 : Int32), m26)))) some = some (nI (if k ≤ n then 1 else 0), m2) ∧ icA m2 4 (sltS (W * H) P s c k n) ∧ ∀ x, ¬ (4 ≤ x ∧ x ≤ 6) → m2 x = m x := by
    by_cases hkn : k ≤ n
    · have hz : nI (k - n) = 0 := h0.mpr hkn
      obtain ⟨m2, j1, j2, j3⟩ := c_drw (x := (1 : Int32) <<< (nI c &&& 31)) e1 (by omega) hA1
      refine ⟨ic_up m2 4 5 (sBr s + 1), ?_, ⟨fun d hd => ?_, fun p hp => ?_, ?_, ?_, ?_, ?_⟩, fun x hx => ?_⟩
      · have h5 : m2 4 5 = sBr s := j2.2.2.2.2.2
        rw [if_neg (by simp [hz, bI]), j1, bd_some, pu_e, h5, if_pos hkn]; rfl
      · rw [ic_up_ne (by omega)]; exact j2.1 d hd
      · rw [ic_up_ne (by omega), j2.2.1 p hp]
        show (if p < P ∧ inS ((1 : Int32) <<< (nI c &&& 31)) (sP s p) = true then -2 else sP s p) = (if p < P ∧ inS (bs (fun d => decide (sI (setS s c (nI (k - n))) d = 0)) (W * H)) (sP s p) = true then -2 else sP s p)
        by_cases hpP : p < P
        · rw [slt_drw hN g hc hpP]
          have : inS ((1 : Int32) <<< (nI c &&& 31)) (sP s p) = decide (sP s p = nI c) := by
            rcases g.2.1 p hpP with h | h | ⟨d, hd, h⟩
            · rw [h, inS_neg m2_lt]; simp [m2_ne (show c < 2 ^ 31 by omega)]
            · rw [h, inS_neg m1_lt]; simp [show ¬ (-1 : Int32) = nI c from fun e => m1_ne (by omega) e.symm]
            · rw [h, inS_n (by omega), b_one (by omega) (by omega)]
              exact decide_eq_decide.mpr (nI_eq (by omega) (by omega)).symm
          rw [this]
          simp [hz]
        · simp [hpP]
      · rw [ic_up_eq, pk_un (by omega)]; exact j2.2.2.1
      · rw [ic_up_eq, pk_un (by omega)]; exact j2.2.2.2.1
      · rw [ic_up_eq, pk_un (by omega)]; exact j2.2.2.2.2.1
      · rw [ic_up_eq, pk_us]
        show sBr s + 1 = sBr s + nI (if k ≤ n then 1 else 0)
        rw [if_pos hkn]; rfl
      · rw [ic_up_ne (by omega), j3 x (by omega), ic_up_ne (by omega)]
    · refine ⟨ic_up m 5 c (nI (k - n)), ?_, ⟨hA1.1, fun p hp => ?_, hA1.2.2.1, hA1.2.2.2.1, hA1.2.2.2.2.1, ?_⟩, fun x hx => ic_up_ne (by omega)⟩
      · rw [if_pos (by simp [h0, hkn, bI]), if_neg hkn]; rfl
      · rw [hA1.2.1 p hp]
        show sP s p = (if p < P ∧ inS (bs (fun d => decide (sI (setS s c (nI (k - n))) d = 0)) (W * H)) (sP s p) = true then -2 else sP s p)
        by_cases hpP : p < P
        · rw [slt_drw hN g hc hpP]
          simp [h0, hkn]
        · simp [hpP]
      · rw [hA1.2.2.2.2.2]
        show sBr s = sBr s + nI (if k ≤ n then 1 else 0)
        rw [if_neg hkn]; exact (Int32.add_zero _).symm
  obtain ⟨m2, k1, k2, k3⟩ := mid
  have gs := gS_slt (c := c) (n := n) hN g hk
  obtain ⟨m3, j1, j2, j3⟩ := c_brk (env_fr (fun b hb => k3 b (by omega)) e) k2 (by omega) gs.2.1
  have hle : nbS q W H S P (sltS (W * H) P s c k n) ≤ W * H := cnt_le _ _
  obtain ⟨m4, i1, i2, i3⟩ := c_claim (t := b) (n := (if k ≤ n then 1 else 0) + nbS q W H S P (sltS (W * H) P s c k n)) (by split <;> omega) j2
  refine ⟨m4, ?_, i2, fun x hx => by rw [i3 x (by omega), j3 x (by omega) (by omega) (by omega), k3 x hx]⟩
  unfold fX1_strewSalt
  rw [c_inch (by omega), bd_some, hA.1 c (by omega), ek, em, c_setI (by omega), bd_some, hole, bd_some]
  have e9 : ∀ (X : Option (Int32 × ic_M)) (F : Int32 × ic_M → Option (Int32 × ic_M)), Option.bind X F = Option.bind (Option.bind X some) F := fun X F => by cases X <;> rfl
  rw [e9, k1, bd_some]
  dsimp only
  rw [j1, bd_some, lt_e, nI_add, i1, bd_some]
theorem m_salt {sw : Nat} {m : ic_M} {q : Nat → Int32} {W H S P c k n : Nat} {s : iceS} {b : Int32} (hb : ¬ b = -1) (e : env (ic_ld sw) m q W H S P) (hA : rwA m 98 s) (g : gS s (W * H) P) (hc : c < W * H) (hk : k ≤ 60) (ek : sI s c = nI k) (hn : n ≤ 60) : ∃ m', ic_ag m 98 28 (nI c) (fun v26 => Option.bind (if nI n ≤ v26 then ic_ag m 98 28 (nI c) (fun v28 => some (v28 - nI n)) else some (0 : Int32)) (fun q27 => ic_as m 98 28 (nI c) q27 (fun m29 => ic_ag m29 98 28 (nI c) (fun v30 => Option.bind (if v30 = 0 then some (1 : Int32) else some (0 : Int32)) (fun q31 => Option.bind (fX9_owns m29 98 b q31) (fun m32 => Option.bind (fX9_drowns m32 98) (fun m33 => Option.bind (fX9_breaks m33 98 b) (fun q34 => some ((q31 + q34.1), q34.2))))))))) = some (nI ((if k ≤ n then 1 else 0) + nbS q W H S P (sltS (W * H) P s c k n)), m') ∧ rwA m' 98 (clmS b ((if k ≤ n then 1 else 0) + nbS q W H S P (sltS (W * H) P s c k n)) (brkS q W H S P (sltS (W * H) P s c k n))) ∧ ∀ x, x ≠ 98 → m' x = m x := by
  have hN := rOK_N e.1.1
  have hP := rOK_P e.1.1
  have hA1 : rwA (ic_up m 98 c (nI (k - n))) 98 (setS s c (nI (k - n))) := by
    refine ⟨fun d hd => ?_, fun p hp => ?_, ?_, ?_, ?_, ?_⟩
    · show ic_up m 98 c (nI (k - n)) 98 d = if d = c then nI (k - n) else sI s d
      rw [ic_up_eq]
      by_cases h : d = c
      · rw [if_pos h, h, pk_us]
      · rw [if_neg h, pk_un h]; exact hA.1 d hd
    · rw [ic_up_eq, pk_un (by omega)]; exact hA.2.1 p hp
    · rw [ic_up_eq, pk_un (by omega)]; exact hA.2.2.1
    · rw [ic_up_eq, pk_un (by omega)]; exact hA.2.2.2.1
    · rw [ic_up_eq, pk_un (by omega)]; exact hA.2.2.2.2.1
    · rw [ic_up_eq, pk_un (by omega)]; exact hA.2.2.2.2.2
  have h0 : (nI (k - n) = 0) ↔ k ≤ n := by
    rw [show (0 : Int32) = nI 0 from rfl, nI_eq (by omega) (by omega)]; omega
  obtain ⟨m2, k1, k2, k3⟩ := m_owns (t := b) (n := if k ≤ n then 1 else 0) (by split <;> omega) il_m.1 hA1
  have e2 : env (ic_ld sw) m2 q W H S P := env_fr (fun b hb => by rw [k3 b (by omega), ic_up_ne (by omega)]) e
  obtain ⟨m3, j1, j2, j3⟩ := m_drw e2 (Or.inl rfl) k2 g.2.1
  have e3 : env (ic_ld sw) m3 q W H S P := env_fr (fun b hb => j3 b (by omega)) e2
  have gs := gS_slt (c := c) (n := n) hN g hk
  obtain ⟨m4, i1, i2, i3⟩ := m_brk (t := b) e3 (Or.inl rfl) j2 gs.1 gs.2.1
  have i2 : rwA m4 98 (clmS b (nbS q W H S P (sltS (W * H) P s c k n)) (brkS q W H S P (sI (sltS (W * H) P s c k n), sP (sltS (W * H) P s c k n), sSn s, sNi s, if 0 < (if k ≤ n then 1 else 0) ∧ sOw s = -1 then b else sOw s, sBr (sltS (W * H) P s c k n)))) := i2
  rw [clm_ow hb] at i2
  refine ⟨m4, ?_, i2, fun x hx => by rw [i3 x hx, j3 x hx, k3 x hx, ic_up_ne hx]⟩
  rw [ag_n (by omega) (by omega), ag_n (by omega) (by omega), hA.1 c (by omega), ek]
  have em : (if nI n ≤ nI k then some (nI k - nI n) else some 0) = some (nI (k - n)) := by
    by_cases h : n ≤ k
    · rw [if_pos (nI_le h (by omega)), pk_sub h]
    · rw [if_neg (nI_ge (by omega) (by omega)), show k - n = 0 by omega]; rfl
  rw [em, bd_some, as_n (by omega) (by omega), ag_n (by omega) (by omega), ic_up_eq, pk_us]
  have eq1 : (if nI (k - n) = 0 then some (1 : Int32) else some 0) = some (nI (if k ≤ n then 1 else 0)) := by
    simp only [h0]
    split <;> rfl
  rw [eq1, bd_some, k1, bd_some, j1, bd_some, i1, bd_some]
  show some (nI (if k ≤ n then 1 else 0) + nI (nbS q W H S P (sltS (W * H) P s c k n)), m4) = _
  rw [nI_add]
theorem pu_salt {sw : Nat} {μ : ic_M} (hI : ic_I sw μ) (a1 a2 a3 : Int32) : ∃ (v : Int32) (μ1 : ic_M) (μ2 : ic_M), fX8_salt sw μ a1 a2 a3 = some (v, μ1) ∧ fX9_salt μ1 a1 a2 a3 = some (v, μ2) ∧ ic_I sw μ2 := by
  obtain ⟨W, H, S, P, h⟩ := id hI
  obtain ⟨ho, hr, hm, hl, -⟩ := h.1
  have hN := rOK_N ho
  have hP := rOK_P ho
  obtain ⟨s0, t1, t2, t3⟩ := iN_to h.2.2.2.2.1
  unfold fX8_salt fX9_salt
  rw [c_isCell hr.2.2.2.1, bd_some]
  by_cases hc : bI (isC (W * H) a2) = 0
  · exact ⟨-1000000001, μ, μ, by rw [if_pos hc], by rw [m_isCell hm ho, bd_some, if_pos hc], hI⟩
  obtain ⟨c, hcN, rfl⟩ := isC_f (by omega) hc
  rw [if_neg hc, wi_e, bd_some]
  cases hw1 : wi a1 0 1
  · exact ⟨-1000000002, μ, μ, by rw [bI_f, if_pos rfl], by rw [m_isCell hm ho, bd_some, if_neg hc, in_e, bd_some, hw1, bI_f, if_pos rfl], hI⟩
  rw [bI_t, if_neg one_ne0, wi_e, bd_some]
  cases hw2 : wi a3 1 60
  · exact ⟨-1000000002, μ, μ, by rw [bI_f, if_pos rfl], by rw [m_isCell hm ho, bd_some, if_neg hc, in_e, bd_some, hw1, bI_t, if_neg one_ne0, in_e, bd_some, hw2, bI_f, if_pos rfl], hI⟩
  rw [bI_t, if_neg one_ne0, c_hole (by omega), bd_some, t1.1 c (by omega)]
  have g98 : ∀ {α : Type} (m : ic_M) (T : Int32 → Option α), m 98 = μ 98 → ic_ag m 98 28 (nI c) T = T (sI s0 c) := fun m T hm2 => by
    rw [ag_n (by omega) (by omega), hm2, t2.1 c (by omega)]
  by_cases hz : sI s0 c = 0
  · exact ⟨-1000000003, μ, μ, by rw [if_neg (by simp [hz, bI])], by rw [m_isCell hm ho, bd_some, if_neg hc, in_e, bd_some, hw1, bI_t, if_neg one_ne0, in_e, bd_some, hw2, bI_t, if_neg one_ne0, g98 μ _ rfl, if_pos hz], hI⟩
  obtain ⟨n, n1, n2, rfl⟩ := (wi_n (a := 1) (b := 60) (by omega) (by omega)).mp hw2
  obtain ⟨t, t4, t5, rfl⟩ := (wi_n (a := 0) (b := 1) (by omega) (by omega)).mp hw1
  obtain ⟨k, hk, ek⟩ := t3.1 c (by omega)
  have hb : ¬ nI t = -1 := m1_ne (by omega)
  rw [if_pos (by simp [hz, bI])]
  refine deedK h (A := fun m25 => Option.bind (fX1_strewSalt m25 4 (ic_ld sw) (nI t) (nI c) (nI n)) (fun q26 => some (q26.1, q26.2))) (B := fun m25 => ic_ag m25 98 28 (nI c) (fun v26 => Option.bind (if nI n ≤ v26 then ic_ag m25 98 28 (nI c) (fun v28 => some (v28 - nI n)) else some (0 : Int32)) (fun q27 => ic_as m25 98 28 (nI c) q27 (fun m29 => ic_ag m29 98 28 (nI c) (fun v30 => Option.bind (if v30 = 0 then some (1 : Int32) else some (0 : Int32)) (fun q31 => Option.bind (fX9_owns m29 98 (nI t) q31) (fun m32 => Option.bind (fX9_drowns m32 98) (fun m33 => Option.bind (fX9_breaks m33 98 (nI t)) (fun q34 => some ((q31 + q34.1), q34.2)))))))))) (fun s s1 s2 g => ⟨clmS (nI t) ((if k ≤ n then 1 else 0) + nbS (μ 94) W H S P (sltS (W * H) P s c k n)) (brkS (μ 94) W H S P (sltS (W * H) P s c k n)), nI ((if k ≤ n then 1 else 0) + nbS (μ 94) W H S P (sltS (W * H) P s c k n)), ?_, fun m e l1 l2 hA => ?_, fun m e l1 l2 hA => ?_⟩) (fun v μ1 μ2 e1 e2 e3 e4 => ⟨v, μ1, μ2, e1, ?_, e4⟩)
  · exact gS_clm (gS_brk hP hN (gS_slt hN g hk))
  · obtain ⟨m', k1, k2, k3⟩ := c_salt (b := nI t) e hA g hcN hk (by rw [← s1.1 c (by omega), t1.1 c (by omega)]; exact ek) n2
    exact ⟨m', by rw [k1]; rfl, k2, k3⟩
  · exact m_salt hb e hA g hcN hk (by rw [← s1.1 c (by omega), t1.1 c (by omega)]; exact ek) n2
  · rw [m_isCell (mR_fr (e3 92 (by omega) (by omega) (by omega)) hm) ho, bd_some, if_neg hc, in_e, bd_some, hw1, bI_t, if_neg one_ne0, in_e, bd_some, hw2, bI_t, if_neg one_ne0, g98 μ1 _ (e3 98 (by omega) (by omega) (by omega)), if_neg hz]
    exact e2
