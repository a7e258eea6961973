/-! ===== river ===== -/
/-- the reference's river behind a good text -/
theorem m_tail {m : ic_M} {W H S P c4 : Nat} (ho : rOK W H S P) (h95 : m 95 0 = nI W ∧ m 95 1 = nI H ∧ m 95 2 = nI S ∧ m 95 3 = nI P) (h4 : m 95 4 = nI c4 ∧ c4 ≤ 18) :
    ∃ m2 n4, Option.bind (if nI W ≤ 0 then some m else Option.bind (fX9_settles m) (fun m35 => some m35)) (fun q34 => Option.bind (fX9_copies q34 95 (0 : Int32) 92 (0 : Int32) (7 : Int32)) (fun m36 => Option.bind (fX9_copies m36 96 (0 : Int32) 93 (0 : Int32) (36 : Int32)) (fun m37 => Option.bind (fX9_copies m37 97 (0 : Int32) 94 (0 : Int32) (12 : Int32)) (fun m38 => Option.bind (lpX9_river_158 1000 (0 : Int32) m38) (fun q46 => ic_as q46 98 28 (25 : Int32) (-1 : Int32) (fun m47 => ic_pu m47 90 12 (0 : Int32) (fun m48 => ic_pu m48 90 18 (0 : Int32) (fun m49 => ic_pu m49 90 20 (0 : Int32) (fun m50 => ic_az m50 103 2 (0 : Int32) (0 : Int32) (fun m51 => ic_az m51 103 2 (1 : Int32) (0 : Int32) (fun m52 => Option.bind (fX9_cells m52) (fun v53 => some (v53, m52))))))))))))) = some (nI (W * H), m2) ∧
      mR m2 W H S P ∧ (0 < W → (∀ x, 4 ≤ x → x ≤ 6 → m2 92 x = setl (setl (setl m 4) 5) 6 95 x) ∧ (∀ x, x < 36 → m2 93 x = setl (setl (setl m 4) 5) 6 96 x) ∧ m2 92 4 = nI n4 ∧ 1 ≤ n4 ∧ n4 ≤ 18) ∧ (∀ x, x < 12 → m2 94 x = m 97 x) ∧ (∀ k, k < 28 → m2 98 k = if k = 25 then -1 else if k < W * H then m2 93 (k % n4) else if 18 ≤ k ∧ k ≤ 23 then -1 else 0) ∧ m2 103 0 = 0 ∧ m2 103 1 = 0 ∧ m2 90 12 = 0 ∧ m2 90 18 = 0 ∧ m2 90 20 = 0 ∧ (∀ k, k ≠ 12 → k ≠ 18 → k ≠ 20 → m2 90 k = m 90 k) ∧ ∀ b, b ≠ 90 → ¬ (92 ≤ b ∧ b ≤ 98) → b ≠ 103 → m2 b = m b := by
  have hW6 : W ≤ 6 := by rcases ho with h | h <;> omega
  have hN := rOK_N ho
  -- behind what is settled
  have hS : ∃ m0, (if nI W ≤ 0 then some m else Option.bind (fX9_settles m) (fun m35 => some m35)) = some m0 ∧ (∀ x, x ≤ 3 → m0 95 x = m 95 x) ∧ (∀ b, b ≠ 95 → b ≠ 96 → m0 b = m b) ∧ (0 < W → m0 = setl (setl (setl m 4) 5) 6) := by
    by_cases hW : W = 0
    · exact ⟨m, by rw [if_pos (by rw [hW]; decide)], fun _ _ => rfl, fun _ _ _ => rfl, fun h => absurd h (by omega)⟩
    · refine ⟨setl (setl (setl m 4) 5) 6, by rw [if_neg (nI_nle (by omega) (by omega)), m_settles, bd_some], fun x hx => by rw [setl_95 (by omega), setl_95 (by omega), setl_95 (by omega)], fun b h1 h2 => by rw [setl_b h1 h2, setl_b h1 h2, setl_b h1 h2], fun _ => rfl⟩
  obtain ⟨m0, s1, s2, s3, s4⟩ := hS
  have il : ic_il 106 92 = 7 ∧ ic_il 106 93 = 36 ∧ ic_il 106 94 = 12 ∧ ic_il 106 95 = 7 ∧ ic_il 106 96 = 36 ∧ ic_il 106 97 = 12 := by decide +kernel
  obtain ⟨i92, i93, i94, i95, i96, i97⟩ := il
  obtain ⟨m1, a1, a2, a3, a4⟩ := m_copies (μ := m0) (r0 := 95) (r2 := 92) (x := 0) (y := 0) (n := 7) (by omega) (by omega) (by omega) (by omega) (by omega) (by omega)
  obtain ⟨m2, b1, b2, b3, b4⟩ := m_copies (μ := m1) (r0 := 96) (r2 := 93) (x := 0) (y := 0) (n := 36) (by omega) (by omega) (by omega) (by omega) (by omega) (by omega)
  obtain ⟨m3, c1, c2, c3, c5⟩ := m_copies (μ := m2) (r0 := 97) (r2 := 94) (x := 0) (y := 0) (n := 12) (by omega) (by omega) (by omega) (by omega) (by omega) (by omega)
  have a1 : fX9_copies m0 95 0 92 0 7 = some m1 := a1
  have b1 : fX9_copies m1 96 0 93 0 36 = some m2 := b1
  have c1 : fX9_copies m2 97 0 94 0 12 = some m3 := c1
  have v92 : ∀ x, x < 7 → m3 92 x = m0 95 x := fun x hx => by
    have := a2 x hx
    rw [Nat.zero_add] at this
    rw [c5 92 (by omega), b4 92 (by omega), this]
  have v93 : ∀ x, x < 36 → m3 93 x = m0 96 x := fun x hx => by
    have := b2 x hx
    rw [Nat.zero_add] at this
    rw [c5 93 (by omega), this, a4 96 (by omega)]
  have v94 : ∀ x, x < 12 → m3 94 x = m 97 x := fun x hx => by
    have := c2 x hx
    rw [Nat.zero_add] at this
    rw [this, b4 97 (by omega), a4 97 (by omega), s3 97 (by omega) (by omega)]
  have vb : ∀ b, ¬ (92 ≤ b ∧ b ≤ 96) → m3 b = m b := fun b hb => by rw [c5 b (by omega), b4 b (by omega), a4 b (by omega), s3 b (by omega) (by omega)]
  have hm3 : mR m3 W H S P := ⟨by rw [v92 0 (by omega), s2 0 (by omega), h95.1], by rw [v92 1 (by omega), s2 1 (by omega), h95.2.1], by rw [v92 2 (by omega), s2 2 (by omega), h95.2.2.1], by rw [v92 3 (by omega), s2 3 (by omega), h95.2.2.2]⟩
  have n4e : ∃ n4, 0 < W → m3 92 4 = nI n4 ∧ 1 ≤ n4 ∧ n4 ≤ 18 := by
    by_cases hc : c4 = 0
    · refine ⟨1, fun hW => ⟨?_, by omega, by omega⟩⟩
      rw [v92 4 (by omega), s4 hW, setl_95 (by omega), setl_95 (by omega)]
      unfold setl
      rw [if_pos (by rw [h4.1, hc]; rfl), ic_up_eq, pk_us]; rfl
    · refine ⟨c4, fun hW => ⟨?_, by omega, by omega⟩⟩
      rw [v92 4 (by omega), s4 hW, setl_95 (by omega), setl_95 (by omega)]
      unfold setl
      rw [if_neg (by rw [h4.1]; exact nI_ne0 (by omega) (by omega)), h4.1]
  obtain ⟨n4, n4h⟩ := n4e
  obtain ⟨m4, d1, d2, d3⟩ := m_ice (n4 := n4) hm3 ho (fun h => n4h (Nat.pos_of_mul_pos_right h))
  have hm5 : mR (ic_up (ic_up (ic_up (ic_up (ic_up (ic_up m4 98 25 (-1)) 90 12 0) 90 18 0) 90 20 0) 103 0 0) 103 1 0) W H S P := mR_fr (by rw [ic_up_ne (by omega), ic_up_ne (by omega), ic_up_ne (by omega), ic_up_ne (by omega), ic_up_ne (by omega), ic_up_ne (by omega), d3 92 (by omega)]) hm3
  refine ⟨ic_up (ic_up (ic_up (ic_up (ic_up (ic_up m4 98 25 (-1)) 90 12 0) 90 18 0) 90 20 0) 103 0 0) 103 1 0, n4, ?_, hm5, fun hW => ⟨fun x h1 h2 => ?_, fun x hx => ?_, ?_⟩, fun x hx => ?_, fun k hk => ?_, ?_, ?_, ?_, ?_, ?_, fun k h1 h2 h3 => ?_, fun b h1 h2 h3 => ?_⟩
  · rw [s1, bd_some, a1, bd_some, b1, bd_some, c1, bd_some, d1, bd_some, show ∀ (T : ic_M → Option (Int32 × ic_M)), ic_as m4 98 28 (25 : Int32) (-1) T = ic_as m4 98 28 (nI 25) (-1) T from fun _ => rfl, as_n (by omega) (by omega), pu_e, pu_e, pu_e, show ∀ (μ : ic_M) (T : ic_M → Option (Int32 × ic_M)), ic_az μ 103 2 (0 : Int32) 0 T = ic_az μ 103 2 (nI 0) 0 T from fun _ _ => rfl, az_n (by omega) (by omega) (Or.inl rfl), show ∀ (μ : ic_M) (T : ic_M → Option (Int32 × ic_M)), ic_az μ 103 2 (1 : Int32) 0 T = ic_az μ 103 2 (nI 1) 0 T from fun _ _ => rfl, az_n (by omega) (by omega) (Or.inl rfl), m_cells hm5, bd_some]
  · rw [ic_up_ne (by omega), ic_up_ne (by omega), ic_up_ne (by omega), ic_up_ne (by omega), ic_up_ne (by omega), ic_up_ne (by omega), d3 92 (by omega), v92 x (by omega), s4 hW]
  · rw [ic_up_ne (by omega), ic_up_ne (by omega), ic_up_ne (by omega), ic_up_ne (by omega), ic_up_ne (by omega), ic_up_ne (by omega), d3 93 (by omega), v93 x (by omega), s4 hW]
  · rw [ic_up_ne (by omega), ic_up_ne (by omega), ic_up_ne (by omega), ic_up_ne (by omega), ic_up_ne (by omega), ic_up_ne (by omega), d3 92 (by omega)]
    exact n4h hW
  · rw [ic_up_ne (by omega), ic_up_ne (by omega), ic_up_ne (by omega), ic_up_ne (by omega), ic_up_ne (by omega), ic_up_ne (by omega), d3 94 (by omega), v94 x hx]
  · rw [ic_up_ne (by omega), ic_up_ne (by omega), ic_up_ne (by omega), ic_up_ne (by omega), ic_up_ne (by omega), ic_up_eq]
    by_cases h25 : k = 25
    · rw [h25, pk_us, if_pos rfl]
    · rw [pk_un h25, if_neg h25, d2 k hk, ic_up_ne (by omega), ic_up_ne (by omega), ic_up_ne (by omega), ic_up_ne (by omega), ic_up_ne (by omega), ic_up_ne (by omega), d3 93 (by omega)]
  · rw [ic_up_eq, pk_un (by omega), ic_up_eq, pk_us]
  · rw [ic_up_eq, pk_us]
  · rw [ic_up_ne (by omega), ic_up_ne (by omega), ic_up_eq, pk_un (by omega), ic_up_eq, pk_un (by omega), ic_up_eq, pk_us]
  · rw [ic_up_ne (by omega), ic_up_ne (by omega), ic_up_eq, pk_un (by omega), ic_up_eq, pk_us]
  · rw [ic_up_ne (by omega), ic_up_ne (by omega), ic_up_eq, pk_us]
  · rw [ic_up_ne (by omega), ic_up_ne (by omega), ic_up_eq, pk_un h3, ic_up_eq, pk_un h2, ic_up_eq, pk_un h1, ic_up_ne (by omega), d3 90 (by omega), vb 90 (by omega)]
  · rw [ic_up_ne h3, ic_up_ne h3, ic_up_ne h1, ic_up_ne h1, ic_up_ne h1, ic_up_ne (by omega), d3 b (by omega), vb b (by omega)]
/-- the reference's river, from its first letter: told or not -/
theorem m_river {m m' m1' : ic_M} {f a : Nat} (hst : ∀ {α : Type} (G : ic_M → Option α), Option.bind (lpX9_river_12 1000 0 (ic_up (ic_up m 90 21 0) 90 22 0)) (fun q27 => Option.bind (fX9_skips q27) G) = G m') (hrd : lpX9_reads_0 1000 m' = some m1') (hf : f ≤ 3) (h22 : m1' 90 22 = nI f) :
    (¬ f = 0 → m1' 90 21 = nI a → fX9_river m = some (-10 - nI f, ic_up (ic_up m1' 90 1 0) 90 2 (nI a))) ∧ (f = 0 → ∀ (W H S P c4 : Nat), rOK W H S P → (m1' 95 0 = nI W ∧ m1' 95 1 = nI H ∧ m1' 95 2 = nI S ∧ m1' 95 3 = nI P) → (m1' 95 4 = nI c4 ∧ c4 ≤ 18) → ∃ m2 n4, fX9_river m = some (nI (W * H), m2) ∧ mR m2 W H S P ∧ (0 < W → (∀ x, 4 ≤ x → x ≤ 6 → m2 92 x = setl (setl (setl m1' 4) 5) 6 95 x) ∧ (∀ x, x < 36 → m2 93 x = setl (setl (setl m1' 4) 5) 6 96 x) ∧ m2 92 4 = nI n4 ∧ 1 ≤ n4 ∧ n4 ≤ 18) ∧ (∀ x, x < 12 → m2 94 x = m1' 97 x) ∧ (∀ k, k < 28 → m2 98 k = if k = 25 then -1 else if k < W * H then m2 93 (k % n4) else if 18 ≤ k ∧ k ≤ 23 then -1 else 0) ∧ m2 103 0 = 0 ∧ m2 103 1 = 0 ∧ m2 90 12 = 0 ∧ m2 90 18 = 0 ∧ m2 90 20 = 0 ∧ m2 90 1 = 0 ∧ m2 90 2 = -1 ∧ (∀ k, k ≠ 12 → k ≠ 18 → k ≠ 20 → k ≠ 1 → k ≠ 2 → m2 90 k = m1' 90 k) ∧ ∀ b, b ≠ 90 → ¬ (92 ≤ b ∧ b ≤ 98) → b ≠ 103 → m2 b = m1' b) := by
  have hreads : fX9_reads m' = some m1' := by unfold fX9_reads; rw [hrd, bd_some]
  constructor
  · intro hf0 h21
    unfold fX9_river
    simp only [pu_e]
    rw [hst, hreads, bd_some, ic_up_eq, pk_un (by omega), pk_un (by omega), h22, h21, if_neg (nI_ne0 (by omega) (by omega)), bd_some, ic_up_eq, pk_un (by omega), ic_up_eq, pk_un (by omega), h22, if_neg (nI_ne0 (by omega) (by omega))]
  · intro hf0 W H S P c4 ho h95 h4
    have b95 : ic_up (ic_up m1' 90 1 0) 90 2 (-1) 95 = m1' 95 := by rw [ic_up_ne (by omega), ic_up_ne (by omega)]
    obtain ⟨m2, n4, e1, e2, e3, e4, e5, e6, e7, e8, e9, e10, e11, e12⟩ := m_tail (m := ic_up (ic_up m1' 90 1 0) 90 2 (-1)) ho (by rw [b95]; exact h95) (by rw [b95]; exact h4)
    have hset : ∀ k, setl (setl (setl (ic_up (ic_up m1' 90 1 0) 90 2 (-1)) 4) 5) 6 95 k = setl (setl (setl m1' 4) 5) 6 95 k ∧ setl (setl (setl (ic_up (ic_up m1' 90 1 0) 90 2 (-1)) 4) 5) 6 96 k = setl (setl (setl m1' 4) 5) 6 96 k := by
      have one : ∀ (x y : ic_M) (k : Nat), x 95 = y 95 → x 96 = y 96 → setl x k 95 = setl y k 95 ∧ setl x k 96 = setl y k 96 := fun x y k h1 h2 => by
        unfold setl
        rw [h1]
        split
        · constructor
          · rw [ic_up_eq, ic_up_eq, ic_up_ne (by omega), ic_up_ne (by omega), h1]
          · rw [ic_up_ne (r := 95) (by omega), ic_up_ne (r := 95) (by omega), ic_up_eq, ic_up_eq, h2]
        · exact ⟨h1, h2⟩
      have b96 : ic_up (ic_up m1' 90 1 0) 90 2 (-1) 96 = m1' 96 := by rw [ic_up_ne (by omega), ic_up_ne (by omega)]
      obtain ⟨p1, p2⟩ := one _ m1' 4 b95 b96
      obtain ⟨p3, p4⟩ := one _ _ 5 p1 p2
      obtain ⟨p5, p6⟩ := one _ _ 6 p3 p4
      exact fun k => ⟨by rw [p5], by rw [p6]⟩
    refine ⟨m2, n4, ?_, e2, fun hW => ⟨fun x h1 h2 => by rw [(e3 hW).1 x h1 h2, (hset x).1], fun x hx => by rw [(e3 hW).2.1 x hx, (hset x).2], (e3 hW).2.2⟩, fun x hx => by rw [e4 x hx, ic_up_ne (by omega), ic_up_ne (by omega)], e5, e6, e7, e8, e9, e10, ?_, ?_, fun k h1 h2 h3 h4 h5 => ?_, fun b h1 h2 h3 => ?_⟩
    · unfold fX9_river
      simp only [pu_e]
      rw [hst, hreads, bd_some, show ic_up m1' 90 1 0 90 22 = 0 by rw [ic_up_eq, pk_un (by omega), h22, hf0]; rfl, if_pos rfl, bd_some, show ic_up (ic_up m1' 90 1 0) 90 2 (-1) 90 22 = 0 by rw [ic_up_eq, pk_un (by omega), ic_up_eq, pk_un (by omega), h22, hf0]; rfl, if_pos rfl, show ∀ T : Int32 → Option (Int32 × ic_M), ic_ag (ic_up (ic_up m1' 90 1 0) 90 2 (-1)) 95 7 (0 : Int32) T = ic_ag (ic_up (ic_up m1' 90 1 0) 90 2 (-1)) 95 7 (nI 0) T from fun _ => rfl, ag_n (by omega) (by omega), b95, h95.1]
      exact e1
    · rw [e11 1 (by omega) (by omega) (by omega), ic_up_eq, pk_un (by omega), ic_up_eq, pk_us]
    · rw [e11 2 (by omega) (by omega) (by omega), ic_up_eq, pk_us]
    · rw [e11 k h1 h2 h3, ic_up_eq, pk_un h5, ic_up_eq, pk_un h4]
    · rw [e12 b h1 h2 h3, ic_up_ne h1, ic_up_ne h1]
