def dS (μ0 : ic_M) (q : Nat → Int32) (W H S P : Nat) (x : iceS × Nat) (i : Nat) : iceS × Nat := itr (fun _ x => dayS μ0 q W H S P x) 0 i x
theorem dS_1 (μ0 : ic_M) (q : Nat → Int32) (W H S P : Nat) (x : iceS × Nat) (i : Nat) : dS μ0 q W H S P x (i + 1) = dayS μ0 q W H S P (dS μ0 q W H S P x i) := by
  unfold dS
  rw [itr_succ]
theorem dS_g {μ0 : ic_M} {q : Nat → Int32} {W H S P k : Nat} {x : iceS × Nat} (hP : P ≤ 6) (hN : W * H ≤ 18) (h0 : 0 < W * H) (g : gS x.1 (W * H) P) (hsd : x.2 < 2 ^ 31) (hk : sNi x.1 = nI k) (hk2 : k ≤ 9000) : ∀ i, i ≤ 60 → gS (dS μ0 q W H S P x i).1 (W * H) P ∧ sNi (dS μ0 q W H S P x i).1 = nI (k + i) ∧ (dS μ0 q W H S P x i).2 < 2 ^ 31
  | 0, _ => ⟨g, hk, hsd⟩
  | i + 1, hi => by
    obtain ⟨h1, h2, h3⟩ := dS_g (μ0 := μ0) (q := q) (S := S) hP hN h0 g hsd hk hk2 i (by omega)
    rw [dS_1]
    exact day_g (k := k + i) hP hN h0 h1 h3 h2 (by omega)
theorem pu_drift {sw : Nat} {μ : ic_M} (hI : ic_I sw μ) (a1 : Int32) : ∃ (v : Int32) (μ1 : ic_M) (μ2 : ic_M), fX8_drift sw μ a1 = some (v, μ1) ∧ fX9_drift μ1 a1 = some (v, μ2) ∧ ic_I sw μ2 := by
  obtain ⟨W, H, S, P, h⟩ := id hI
  have ho := h.1.1
  have hN := rOK_N ho
  have hP := rOK_P ho
  obtain ⟨v0, b1, b2, b3⟩ := c_bar (x := a1) h
  unfold fX8_drift fX9_drift
  rw [b1, bd_some]
  by_cases hv : v0 = 0
  · obtain ⟨⟨n, n1, n2, rfl⟩, hW, k, hk, ek⟩ := b3 hv
    have hN0 : 0 < W * H := by
      rcases ho with ⟨h1, h2, h3, h4, -⟩ | ⟨h1, -⟩
      · have := rivY_le ⟨h1, h2, h3, h4⟩; omega
      · omega
    rw [if_pos hv]
    refine deedD h (A := fun m22 => Option.bind (lpX8_drift_25 sw (nI n) 1000 (0 : Int32) m22) (fun q26 => some ((q26 4 5), q26))) (B := fun m22 => Option.bind (lpX9_drift_18 (nI n) 1000 (0 : Int32) m22) (fun q39 => ic_ag q39 98 28 (27 : Int32) (fun v40 => some (v40, q39)))) (fun s sd hsd s1 s2 g => ⟨(dS μ (μ 94) W H S P (s, sd) n).1, sBr (dS μ (μ 94) W H S P (s, sd) n).1, (dS μ (μ 94) W H S P (s, sd) n).2, ?_, ?_, fun m e l1 l2 hA hs => ?_, fun m e l1 l2 hA hs => ?_⟩) (fun v μ1 μ2 e1 e2 e3 e4 => ⟨v, μ1, μ2, e1, by rw [bar_fr (e3 92 (by omega) (by omega) (by omega) (by omega)) (e3 98 (by omega) (by omega) (by omega) (by omega)), b2, bd_some, if_pos hv]; exact e2, e4⟩)
    · exact (dS_g (x := (s, sd)) hP hN hN0 g hsd (by rw [← s2.2.2.2.1]; exact ek) hk n n2).2.2
    · exact (dS_g (x := (s, sd)) hP hN hN0 g hsd (by rw [← s2.2.2.2.1]; exact ek) hk n n2).1
    · have hk3 : sNi s = nI k := by rw [← s2.2.2.2.1]; exact ek
      have hg := dS_g (μ0 := μ) (q := μ 94) (S := S) (x := (s, sd)) hP hN hN0 g hsd hk3 hk
      have := for_R (lp := fun fu i x => lpX8_drift_25 sw (nI n) fu (nI i) x) (Q := fun m' => icA m' 4 (dS μ (μ 94) W H S P (s, sd) n).1 ∧ m' 1 10 = nI (dS μ (μ 94) W H S P (s, sd) n).2 ∧ (∀ k, k ≠ 10 → m' 1 k = m 1 k) ∧ ∀ b, b ≠ 1 → ¬ (4 ≤ b ∧ b ≤ 6) → m' b = m b) n (by omega) (fun i m' => icA m' 4 (dS μ (μ 94) W H S P (s, sd) i).1 ∧ m' 1 10 = nI (dS μ (μ 94) W H S P (s, sd) i).2 ∧ (∀ k, k ≠ 10 → m' 1 k = m 1 k) ∧ ∀ b, b ≠ 1 → ¬ (4 ≤ b ∧ b ≤ 6) → m' b = m b) (fun fu i m' hi hI2 => by
        obtain ⟨i1, i2, i3, i4⟩ := hI2
        obtain ⟨g1, g2, g3⟩ := hg i (by omega)
        have e1 : env (ic_ld sw) m' (μ 94) W H S P := env_fr (fun b hb => i4 b (by omega) (by omega)) e
        obtain ⟨ma, w1, w2, w3, w4, w5⟩ := c_wander e1 hN0 i1 i2 g1
        obtain ⟨x1, x2, x3⟩ := wanA_g (q := μ 94) (S := S) hP hN hN0 g1 g3
        obtain ⟨y1, y2, y3⟩ := wanB_g x1
        obtain ⟨m'', j1, j2, j3⟩ := c_pass (μ0 := μ) (env_fr (fun b hb => w5 b (by omega) (by omega)) e1) (by rw [w5 92 (by omega) (by omega), i4 92 (by omega) (by omega), l1]) (by rw [w5 93 (by omega) (by omega), i4 93 (by omega) (by omega), l2]) hW (by omega) w2 y1.1 y1.2.1 (k := k + i) (by rw [y2, x2]; exact g2) (by omega)
        refine ⟨m'', ?_, ?_, ?_, fun k hk => ?_, fun b h1 h2 => ?_⟩
        · rw [lpX8_drift_25, if_neg (nI_ge hi (by omega)), w1, bd_some, j1, bd_some, lt_e, nI_1]
        · rw [dS_1, day_e, pas2_1]; exact j2
        · rw [dS_1, day_e, pas2_2, j3 1 (by omega) (by omega) (by omega)]; exact w3
        · rw [j3 1 (by omega) (by omega) (by omega), w4 k hk, i3 k hk]
        · rw [j3 b (by omega) (by omega) (by omega), w5 b h1 h2, i4 b h1 h2]) (fun fu m' hI2 => ⟨m', by
        rw [lpX8_drift_25, if_pos (by exact nI_le (Nat.le_refl _) (by omega))], hI2⟩) m ⟨hA, hs, fun _ _ => rfl, fun _ _ _ => rfl⟩
      obtain ⟨m', j1, j2, j3, j4, j5⟩ := this
      have j1 : lpX8_drift_25 sw (nI n) 1000 0 m = some m' := j1
      exact ⟨m', by rw [j1, bd_some, j2.2.2.2.2.2], j2, j3, j4, j5⟩
    · have hk3 : sNi s = nI k := by rw [← s2.2.2.2.1]; exact ek
      have hg := dS_g (μ0 := μ) (q := μ 94) (S := S) (x := (s, sd)) hP hN hN0 g hsd hk3 hk
      have := for_R (lp := fun fu i x => lpX9_drift_18 (nI n) fu (nI i) x) (Q := fun m' => rwA m' 98 (dS μ (μ 94) W H S P (s, sd) n).1 ∧ m' 90 16 = nI (dS μ (μ 94) W H S P (s, sd) n).2 ∧ (∀ k, k ≠ 16 → m' 90 k = m 90 k) ∧ ∀ b, b ≠ 98 → b ≠ 90 → m' b = m b) n (by omega) (fun i m' => rwA m' 98 (dS μ (μ 94) W H S P (s, sd) i).1 ∧ m' 90 16 = nI (dS μ (μ 94) W H S P (s, sd) i).2 ∧ (∀ k, k ≠ 16 → m' 90 k = m 90 k) ∧ ∀ b, b ≠ 98 → b ≠ 90 → m' b = m b) (fun fu i m' hi hI2 => by
        obtain ⟨i1, i2, i3, i4⟩ := hI2
        obtain ⟨g1, g2, g3⟩ := hg i (by omega)
        have e1 : env (ic_ld sw) m' (μ 94) W H S P := env_fr (fun b hb => i4 b (by omega) (by omega)) e
        obtain ⟨m'', j1, j2, j3, j4, j5⟩ := m_day (μ0 := μ) (fu := fu) e1 (by rw [i4 92 (by omega) (by omega), l1]) (by rw [i4 93 (by omega) (by omega), l2]) hW hN0 i1 i2 g1 g2 (by omega) hi n2
        refine ⟨m'', j1, by rw [dS_1]; exact j2, by rw [dS_1]; exact j3, fun k hk => by rw [j4 k hk, i3 k hk], fun b h1 h2 => by rw [j5 b h1 h2, i4 b h1 h2]⟩) (fun fu m' hI2 => ⟨m', by
        rw [lpX9_drift_18, if_pos (by exact nI_le (Nat.le_refl _) (by omega))], hI2⟩) m ⟨hA, hs, fun _ _ => rfl, fun _ _ _ => rfl⟩
      obtain ⟨m', j1, j2, j3, j4, j5⟩ := this
      have j1 : lpX9_drift_18 (nI n) 1000 0 m = some m' := j1
      refine ⟨m', ?_, j2, j3, j4, j5⟩
      rw [j1, bd_some, show ic_ag m' 98 28 (27 : Int32) = ic_ag (α := Int32 × ic_M) m' 98 28 (nI 27) from rfl, ag_n (by omega) (by omega), j2.2.2.2.2.2]
  · exact ⟨v0, μ, μ, by rw [if_neg hv], by rw [b2, bd_some, if_neg hv], hI⟩
