/-! ===== river: how each begins, and what each does behind a good text ===== -/
section BEG
variable {R : Nat} {m : ic_M} {t : Nat → Nat} {n : Nat}
theorem th_fr {m m' : ic_M} {x : Int32} (h0 : m' R = m R) (h1 : m' (R + 1) = m (R + 1)) : fX5_thickAt m' R x = fX5_thickAt m R x := by
  unfold fX5_thickAt fX5_listed ic_ag
  rw [h0, h1]
theorem c_begin {N : Nat} {v : Nat → Int32} (hR : 78 ≤ R) (h11 : m R 11 = nI N) (hN : N ≤ 18) (ht : ∀ c, c < N → fX5_thickAt m R (nI c) = some (v c)) : ∃ m', fX1_begin m 4 R = some m' ∧ (∀ c, c < 18 → m' 5 c = if c < N then v c else 0) ∧ (∀ p, p < 6 → m' 6 p = -1) ∧ m' 4 2 = 0 ∧ m' 4 3 = 0 ∧ m' 4 4 = -1 ∧ m' 4 5 = 0 ∧ ∀ b, ¬ (4 ≤ b ∧ b ≤ 6) → m' b = m b := by
  have k1 := for_M (lp := fun fu i x => lpX1_begin_2 4 R fu (nI i) x) (M := pm m 5 0 (fun _ => true) (fun c => if c < N then v c else 0)) (fin := some (pm m 5 0 (fun _ => true) (fun c => if c < N then v c else 0) 18)) 18 (by omega) (fun fu i hi => by
      have e0 : pm m 5 0 (fun _ => true) (fun c => if c < N then v c else 0) i R = m R := by funext k; exact pm_ne (by omega) k
      have e1 : pm m 5 0 (fun _ => true) (fun c => if c < N then v c else 0) i (R + 1) = m (R + 1) := by funext k; exact pm_ne (by omega) k
      rw [lpX1_begin_2, if_neg (show ¬ (18 : Int32) ≤ nI i from nI_ge (b := 18) hi (by omega)), e0, h11, th_fr e0 e1]
      have e : (if nI N ≤ nI i then some (0 : Int32) else Option.bind (fX5_thickAt m R (nI i)) (fun v22 => some v22)) = some (if i < N then v i else 0) := by
        by_cases h : i < N
        · rw [if_neg (nI_ge h (by omega)), if_pos h, ht i h, bd_some]
        · rw [if_pos (nI_le (by omega) (by omega)), if_neg h]
      rw [e, bd_some, as_n (by omega) (by omega), lt_e, nI_1, ← pm_t (i := i) rfl, Nat.zero_add]) (fun fu => by
      rw [lpX1_begin_2, if_pos (by decide)])
  rw [pm_0] at k1
  have k1 : lpX1_begin_2 4 R 1000 0 m = _ := k1
  generalize hm1 : pm m 5 0 (fun _ => true) (fun c => if c < N then v c else 0) 18 = m1 at k1
  have il6 : ic_il 106 6 = 6 := by decide +kernel
  have k2 := for_M (lp := fun fu i x => lpJ7_fill_53178_5 6 (-1) (nI 6) fu (nI i) x) (M := pm m1 6 0 (fun _ => true) (fun _ => -1)) (fin := some (pm m1 6 0 (fun _ => true) (fun _ => -1) 6)) 6 (by omega) (fun fu i hi => by
      rw [lpJ7_fill_53178_5, if_neg (nI_ge hi (by omega)), il6, as_n (by omega) (by omega), lt_e, nI_1, ← pm_t (i := i) rfl, Nat.zero_add]) (fun fu => by
      rw [lpJ7_fill_53178_5, if_pos (by decide)])
  rw [pm_0] at k2
  have k2 : lpJ7_fill_53178_5 6 (-1) (nI 6) 1000 0 m1 = _ := k2
  have k3 : fJ7_fill_53178 m1 6 (-1) = some (pm m1 6 0 (fun _ => true) (fun _ => -1) 6) := by
    unfold fJ7_fill_53178
    rw [ic_ln, il6, if_neg (by omega), lt_e]
    show Option.bind (lpJ7_fill_53178_5 6 (-1) (nI 6) 1000 0 m1) _ = _
    rw [k2, bd_some]
  generalize hm2 : pm m1 6 0 (fun _ => true) (fun _ => -1) 6 = m2 at k3
  refine ⟨ic_up (ic_up (ic_up (ic_up m2 4 2 0) 4 3 0) 4 4 (-1)) 4 5 0, ?_, fun c hc => ?_, fun p hp => ?_, ?_, ?_, ?_, ?_, fun b hb => ?_⟩
  · unfold fX1_begin
    rw [k1, bd_some, k3, bd_some, pu_e, pu_e, pu_e, pu_e]
  · rw [ic_up_ne (by omega), ic_up_ne (by omega), ic_up_ne (by omega), ic_up_ne (by omega), ← hm2, pm_ne (by omega), ← hm1, pm_in0 hc, if_pos rfl]
  · rw [ic_up_ne (by omega), ic_up_ne (by omega), ic_up_ne (by omega), ic_up_ne (by omega), ← hm2, pm_in0 hp, if_pos rfl]
  · rw [ic_up_eq, pk_un (by omega), ic_up_eq, pk_un (by omega), ic_up_eq, pk_un (by omega), ic_up_eq, pk_us]
  · rw [ic_up_eq, pk_un (by omega), ic_up_eq, pk_un (by omega), ic_up_eq, pk_us]
  · rw [ic_up_eq, pk_un (by omega), ic_up_eq, pk_us]
  · rw [ic_up_eq, pk_us]
  · rw [ic_up_ne (by omega), ic_up_ne (by omega), ic_up_ne (by omega), ic_up_ne (by omega)]
    funext k
    rw [← hm2, pm_ne (by omega), ← hm1, pm_ne (by omega)]
/-- the class, ahead of the first letter -/
theorem c_start (hR : 78 ≤ R) (hT : cT m t n) : ∃ mc, fX4_readInto m R = Option.bind (lpX4_readInto_21 R 1000 0 mc) (fun q29 => Sum.elim (fun t30 => some t30) some q29) ∧ cT mc t n ∧ cst mc n (0, 0) ∧ (∀ k, 5 ≤ k → k ≤ 12 → mc R k = 0) ∧ ∀ b, b ≠ 2 → b ≠ R → mc b = m b := by
  refine ⟨ic_up (ic_up (ic_up (ic_up (ic_up (ic_up (ic_up (ic_up (ic_up (ic_up (ic_up m 2 1 0) 2 3 0) 2 4 (-1)) R 8 0) R 9 0) R 10 0) R 11 0) R 12 0) R 5 0) R 6 0) R 7 0, ?_, ?_, ?_, fun k h1 h2 => ?_, fun b h1 h2 => ?_⟩
  · unfold fX4_readInto fX5_clear
    simp only [pu_e, bd_some]
  · refine cT_fr ?_ ?_ hT
    · rw [ic_up_ne (by omega), ic_up_ne (by omega), ic_up_ne (by omega), ic_up_ne (by omega), ic_up_ne (by omega), ic_up_ne (by omega), ic_up_ne (by omega), ic_up_ne (by omega), ic_up_eq, pk_un (by omega), ic_up_eq, pk_un (by omega), ic_up_eq, pk_un (by omega)]
    · rw [ic_up_ne (by omega), ic_up_ne (by omega), ic_up_ne (by omega), ic_up_ne (by omega), ic_up_ne (by omega), ic_up_ne (by omega), ic_up_ne (by omega), ic_up_ne (by omega), ic_up_ne (by omega), ic_up_ne (by omega), ic_up_ne (by omega)]
  · refine cst_fr (m := ic_up (ic_up (ic_up m 2 1 0) 2 3 0) 2 4 (-1)) (by rw [ic_up_ne (by omega), ic_up_ne (by omega), ic_up_ne (by omega), ic_up_ne (by omega), ic_up_ne (by omega), ic_up_ne (by omega), ic_up_ne (by omega), ic_up_ne (by omega)]) ⟨by simp, by simp, ?_, fun _ => ?_, fun h => absurd rfl h, 0, by omega, ?_⟩
    · rw [ic_up_eq, pk_un (by omega), ic_up_eq, pk_us]; rfl
    · rw [ic_up_eq, pk_un (by omega), ic_up_eq, pk_un (by omega), ic_up_eq, pk_us]; rfl
    · rw [ic_up_eq, pk_un (by omega), ic_up_eq, pk_un (by omega), ic_up_eq, pk_us]; rfl
  · unfold ic_up
    have : k = 5 ∨ k = 6 ∨ k = 7 ∨ k = 8 ∨ k = 9 ∨ k = 10 ∨ k = 11 ∨ k = 12 := by omega
    rcases this with e | e | e | e | e | e | e | e <;> subst e <;> simp
  · rw [ic_up_ne h2, ic_up_ne h2, ic_up_ne h2, ic_up_ne h2, ic_up_ne h2, ic_up_ne h2, ic_up_ne h2, ic_up_ne h2, ic_up_ne h1, ic_up_ne h1, ic_up_ne h1]
/-- the reference, ahead of the first letter -/
theorem m_start (hT : mT m t n) : ∃ m', (∀ {α : Type} (G : ic_M → Option α), Option.bind (lpX9_river_12 1000 0 (ic_up (ic_up m 90 21 0) 90 22 0)) (fun q27 => Option.bind (fX9_skips q27) G) = G m') ∧ mT m' t n ∧ mst m' n (skS t n (0, 0)) ∧ (∀ x, x < 7 → m' 95 x = 0) ∧ mH m m' := by
  have key := for_R (lp := fun fu i x => lpX9_river_12 fu (nI i) x) (Q := fun m1 => (∀ x, x < 7 → m1 95 x = 0) ∧ ∀ b, b ≠ 95 → b ≠ 96 → b ≠ 97 → m1 b = ic_up (ic_up m 90 21 0) 90 22 0 b) 36 (by omega) (fun i m1 => (∀ x, x < 7 → x < i → m1 95 x = 0) ∧ ∀ b, b ≠ 95 → b ≠ 96 → b ≠ 97 → m1 b = ic_up (ic_up m 90 21 0) 90 22 0 b) (fun fu i m1 hi hI => by
    have h7 := Nat.mod_lt i (show 7 > 0 by omega)
    have h12 := Nat.mod_lt i (show 12 > 0 by omega)
    refine ⟨ic_up (ic_up (ic_up m1 95 (i % 7) 0) 96 i 0) 97 (i % 12) 0, ?_, fun x hx hxi => ?_, fun b h1 h2 h3 => by rw [ic_up_ne h3, ic_up_ne h2, ic_up_ne h1, hI.2 b h1 h2 h3]⟩
    · rw [lpX9_river_12, if_neg (show ¬ (36 : Int32) ≤ nI i from nI_ge (b := 36) hi (by omega)), if_neg (by decide), show nI i - nI i / (7 : Int32) * 7 = nI (i % 7) from pk_rem (d := 7) (by omega) (by omega) (by omega), as_n h7 (by omega), as_n (by omega) (by omega), if_neg (by decide), show nI i - nI i / (12 : Int32) * 12 = nI (i % 12) from pk_rem (d := 12) (by omega) (by omega) (by omega), as_n h12 (by omega), lt_e, nI_1]
    · rw [ic_up_ne (by omega), ic_up_ne (by omega), ic_up_eq]
      by_cases h : x = i % 7
      · rw [h, pk_us]
      · rw [pk_un h]
        exact hI.1 x hx (by
          rcases Nat.lt_or_ge x i with h2 | h2
          · exact h2
          · have : x = i := by omega
            subst this
            exact absurd (Nat.mod_eq_of_lt hx).symm h)) (fun fu m1 hI => ⟨m1, by
    rw [lpX9_river_12, if_pos (by decide)], fun x hx => hI.1 x hx (by omega), hI.2⟩) (ic_up (ic_up m 90 21 0) 90 22 0) ⟨fun x _ h => absurd h (by omega), fun _ _ _ _ => rfl⟩
  obtain ⟨m1, k1, k2, k3⟩ := key
  have k1 : lpX9_river_12 1000 0 (ic_up (ic_up m 90 21 0) 90 22 0) = some m1 := k1
  have e90 : m1 90 = ic_up (ic_up m 90 21 0) 90 22 0 90 := k3 90 (by omega) (by omega) (by omega)
  have hT1 : mT m1 t n := mT_fr (by rw [e90, ic_up_eq, pk_un (by omega), ic_up_eq, pk_un (by omega)]) (by rw [k3 91 (by omega) (by omega) (by omega), ic_up_ne (by omega), ic_up_ne (by omega)]) hT
  have hs1 : mst m1 n (0, 0) := ⟨by simp, by simp, by rw [e90, ic_up_eq, pk_us]; rfl, by rw [e90, ic_up_eq, pk_un (by omega), ic_up_eq, pk_us]; rfl⟩
  obtain ⟨m2, l1, l2, l3⟩ := m_skS hT1 hs1
  refine ⟨m2, fun G => by rw [k1, bd_some, l1, bd_some], mT_F l3 hT1, l2, fun x hx => by rw [l3.1 95 (by omega)]; exact k2 x hx, fun b h1 h2 h3 h4 => by rw [l3.1 b h1, k3 b h2 h3 h4, ic_up_ne h1, ic_up_ne h1], fun x h1 h2 => by rw [l3.2 x h1 h2, e90, ic_up_eq, pk_un h2, ic_up_eq, pk_un h1]⟩
theorem DR_0 {mc m' : ic_M} (h : ∀ k, 5 ≤ k → k ≤ 12 → mc R k = 0) (h' : ∀ x, x < 7 → m' 95 x = 0) : DR R mc m' 0 0 0 0 := by
  refine ⟨Or.inr ⟨rfl, rfl, rfl, rfl⟩, ⟨h 8 (by omega) (by omega), h 9 (by omega) (by omega), h 10 (by omega) (by omega), h 11 (by omega) (by omega), h 12 (by omega) (by omega)⟩, ⟨h' 0 (by omega), h' 1 (by omega), h' 2 (by omega), h' 3 (by omega)⟩, ⟨0, by omega, h 5 (by omega) (by omega), h' 4 (by omega), fun j hj => absurd hj (by omega)⟩, ⟨0, by omega, h 6 (by omega) (by omega), h' 5 (by omega), fun j hj => absurd hj (by omega)⟩, ⟨0, by omega, h 7 (by omega) (by omega), h' 6 (by omega), fun j hj => absurd hj (by omega)⟩, fun p hp => absurd hp (by omega)⟩
/-! what is not told -/
def so (k : Nat) : Nat := if k = 4 then 0 else if k = 5 then 18 else 24
def sd (k : Nat) : Nat := if k = 5 then 0 else 10
def setl (m : ic_M) (k : Nat) : ic_M := if m 95 k = 0 then ic_up (ic_up m 96 (so k) (nI (sd k))) 95 k 1 else m
theorem set_1 {k fu : Nat} (h4 : 4 ≤ k) (h6 : k ≤ 6) : lpX9_settles_2 (fu + 1) (nI k) m = lpX9_settles_2 fu (nI (k + 1)) (setl m k) := by
  rw [lpX9_settles_2, if_neg (show ¬ (7 : Int32) ≤ nI k from nI_ge (b := 7) (by omega) (by omega)), ag_n (by omega) (by omega)]
  have e1 : (if nI k = (4 : Int32) then some (0 : Int32) else (if nI k = (5 : Int32) then some (18 : Int32) else some (24 : Int32))) = some (nI (so k)) := by
    have : k = 4 ∨ k = 5 ∨ k = 6 := by omega
    rcases this with e | e | e <;> subst e <;> decide
  have e2 : (if nI k = (5 : Int32) then some (0 : Int32) else some (10 : Int32)) = some (nI (sd k)) := by
    have : k = 4 ∨ k = 5 ∨ k = 6 := by omega
    rcases this with e | e | e <;> subst e <;> decide
  have hso : so k < 36 := by unfold so; split <;> (try split) <;> omega
  unfold setl
  rw [e1, e2, bd_some, bd_some]
  by_cases h : m 95 k = 0
  · rw [if_pos h, if_pos h, as_n hso (by omega), as_n (by omega) (by omega), bd_some, lt_e, nI_1]
  · rw [if_neg h, if_neg h, bd_some, lt_e, nI_1]
theorem m_settles : fX9_settles m = some (setl (setl (setl m 4) 5) 6) := by
  unfold fX9_settles
  rw [show lpX9_settles_2 1000 (4 : Int32) m = lpX9_settles_2 (996 + 1 + 1 + 1 + 1) (nI 4) m from rfl, set_1 (by omega) (by omega), set_1 (by omega) (by omega), set_1 (by omega) (by omega), lpX9_settles_2, if_pos (by decide), bd_some]
theorem setl_b {k b : Nat} (h1 : b ≠ 95) (h2 : b ≠ 96) : setl m k b = m b := by
  unfold setl
  split
  · rw [ic_up_ne h1, ic_up_ne h2]
  · rfl
theorem setl_95 {k x : Nat} (h : x ≠ k) : setl m k 95 x = m 95 x := by
  unfold setl
  split
  · rw [ic_up_eq, pk_un h, ic_up_ne (by omega)]
  · rfl
theorem setl_96 {k x : Nat} (h : x ≠ so k) : setl m k 96 x = m 96 x := by
  unfold setl
  split
  · rw [ic_up_ne (by omega), ic_up_eq, pk_un h]
  · rfl
theorem setl_ok {cn : Int32} {cl : Nat → Int32} {k o B V : Nat} (ho : o = so k) (hB : 1 ≤ B) (hV : sd k ≤ V) (hB2 : B ≤ 18) (h : LR cn cl (m 95 k) (fun j => m 96 (o + j)) B V) : lsOK cn cl (setl m k 95 k) (fun j => setl m k 96 (o + j)) B V (sd k) := by
  obtain ⟨c, a1, a2, a3, a4⟩ := h
  unfold setl
  by_cases hc : c = 0
  · subst hc
    rw [if_pos (by rw [a3]; rfl)]
    refine ⟨1, Nat.le_refl _, hB, by rw [ic_up_eq, pk_us]; rfl, Or.inl ⟨a2, rfl, ?_⟩, fun j hj => ⟨sd k, hV, ?_⟩⟩
    · dsimp only
      rw [ic_up_ne (by omega), ic_up_eq, Nat.add_zero, ho, pk_us]
    · have : j = 0 := by omega
      subst this
      dsimp only
      rw [ic_up_ne (by omega), ic_up_eq, Nat.add_zero, ho, pk_us]
  · rw [if_neg (by rw [a3]; exact nI_ne0 (by omega) (by omega))]
    exact ⟨c, by omega, a1, a3, Or.inr ⟨a2, fun j hj => (a4 j hj).1⟩, fun j hj => (a4 j hj).2⟩
theorem lsOK_fr {cn cn' mn mn' : Int32} {cl cl' ml ml' : Nat → Int32} {B V d : Nat} (h1 : cn' = cn) (h2 : cl' = cl) (h3 : mn' = mn) (h4 : ∀ j, j < B → ml' j = ml j) (h : lsOK cn cl mn ml B V d) : lsOK cn' cl' mn' ml' B V d := by
  obtain ⟨n, a1, a2, a3, a4, a5⟩ := h
  rw [h1, h2, h3]
  refine ⟨n, a1, a2, a3, ?_, fun j hj => by rw [h4 j (by omega)]; exact a5 j hj⟩
  rcases a4 with ⟨b1, b2, b3⟩ | ⟨b1, b2⟩
  · exact Or.inl ⟨b1, b2, by rw [h4 0 (by omega)]; exact b3⟩
  · exact Or.inr ⟨b1, fun j hj => by rw [h4 j (by omega)]; exact b2 j hj⟩
/-- what is listed can be looked up -/
theorem LR_at {cn mn : Int32} {ml : Nat → Int32} {r B V d k : Nat} (hB : ic_il 106 r = B) (hB1 : 1 ≤ B) (hB2 : B ≤ 18) (hk : k < 2 ^ 31) (hd : d ≤ V) (h : LR cn (m r) mn ml B V) : ∃ x, fX5_listed m r cn (nI k) (nI d) = some x := by
  obtain ⟨c, a1, a2, a3, a4⟩ := h
  by_cases hc : c = 0
  · subst hc
    obtain ⟨_, _, _, _, b, _⟩ := c_listed (μ := m) (r0 := r) (B := B) (V := V) (d := d) (k := k) (x1 := cn) (mn := nI 1) (ml := fun _ => nI d) ⟨1, Nat.le_refl _, hB1, rfl, Or.inl ⟨a2, rfl, rfl⟩, fun j _ => ⟨d, hd, rfl⟩⟩ hB hB2 hk
    exact ⟨_, b⟩
  · obtain ⟨_, _, _, _, b, _⟩ := c_listed (μ := m) (r0 := r) (B := B) (V := V) (d := d) (k := k) (x1 := cn) (mn := mn) (ml := ml) ⟨c, by omega, a1, a3, Or.inr ⟨a2, fun j hj => (a4 j hj).1⟩, fun j hj => (a4 j hj).2⟩ hB hB2 hk
    exact ⟨_, b⟩
end BEG
/-- the reference's new ice -/
theorem m_ice {m : ic_M} {W H S P n4 : Nat} (hm : mR m W H S P) (ho : rOK W H S P) (h4 : 0 < W * H → m 92 4 = nI n4 ∧ 1 ≤ n4 ∧ n4 ≤ 18) : ∃ m', lpX9_river_158 1000 0 m = some m' ∧ (∀ k, k < 28 → m' 98 k = if k < W * H then m 93 (k % n4) else if 18 ≤ k ∧ k ≤ 23 then -1 else 0) ∧ ∀ b, b ≠ 98 → m' b = m b := by
  have hN := rOK_N ho
  have k1 := for_M (lp := fun fu i x => lpX9_river_158 fu (nI i) x) (M := pm m 98 0 (fun _ => true) (fun k => if k < W * H then m 93 (k % n4) else if 18 ≤ k ∧ k ≤ 23 then -1 else 0)) (fin := some (pm m 98 0 (fun _ => true) (fun k => if k < W * H then m 93 (k % n4) else if 18 ≤ k ∧ k ≤ 23 then -1 else 0) 28)) 28 (by omega) (fun fu i hi => by
      generalize hf : (fun k => if k < W * H then m 93 (k % n4) else if 18 ≤ k ∧ k ≤ 23 then (-1 : Int32) else 0) = f
      have fi : f i = if i < W * H then m 93 (i % n4) else if 18 ≤ i ∧ i ≤ 23 then (-1 : Int32) else 0 := by rw [← hf]
      have e92 : pm m 98 0 (fun _ => true) f i 92 = m 92 := by funext k; exact pm_ne (by omega) k
      have e93 : pm m 98 0 (fun _ => true) f i 93 = m 93 := by funext k; exact pm_ne (by omega) k
      rw [lpX9_river_158, if_neg (show ¬ (28 : Int32) ≤ nI i from nI_ge (b := 28) hi (by omega)), m_cells (mR_fr e92 hm), bd_some]
      have e : (if nI (W * H) ≤ nI i then Option.bind (fX9_in (pm m 98 0 (fun _ => true) f i) (nI i) (18 : Int32) (23 : Int32)) (fun v41 => (if v41 = 0 then some (0 : Int32) else some (-1 : Int32))) else ic_ag (pm m 98 0 (fun _ => true) f i) 92 7 (4 : Int32) (fun v42 => (if v42 = 0 then none else ic_ag (pm m 98 0 (fun _ => true) f i) 93 36 (nI i - nI i / v42 * v42) (fun v43 => some v43)))) = some (f i) := by
        rw [fi]
        by_cases h : i < W * H
        · obtain ⟨q1, q2, q3⟩ := h4 (by omega)
          have hmod := Nat.mod_lt i (show n4 > 0 by omega)
          rw [if_neg (nI_ge h (by omega)), if_pos h, show ∀ T : Int32 → Option Int32, ic_ag (pm m 98 0 (fun _ => true) f i) 92 7 (4 : Int32) T = ic_ag (pm m 98 0 (fun _ => true) f i) 92 7 (nI 4) T from fun _ => rfl, ag_n (by omega) (by omega), e92, q1, if_neg (nI_ne0 (by omega) (by omega)), pk_rem (by omega) (by omega) (by omega), ag_n (by omega) (by omega), e93]
        · rw [if_pos (nI_le (by omega) (by omega)), if_neg h, in_e, bd_some]
          by_cases h2 : 18 ≤ i ∧ i ≤ 23
          · rw [if_pos h2, show wi (nI i) 18 23 = true from (wi_n (a := 18) (b := 23) (by omega) (by omega)).mpr ⟨i, h2.1, h2.2, rfl⟩, bI_t, if_neg one_ne0]
          · have : wi (nI i) 18 23 = false := by
              cases hw : wi (nI i) 18 23
              · rfl
              · obtain ⟨k, k1, k2, k3⟩ := (wi_n (a := 18) (b := 23) (by omega) (by omega)).mp hw
                have := (nI_eq (by omega) (by omega)).mp k3
                omega
            rw [if_neg h2, this, bI_f, if_pos rfl]
      rw [e, bd_some, as_n (by omega) (by omega), lt_e, nI_1, ← pm_t (i := i) rfl, Nat.zero_add]) (fun fu => by
      rw [lpX9_river_158, if_pos (by decide)])
  rw [pm_0] at k1
  refine ⟨_, k1, fun k hk => by rw [pm_in0 hk, if_pos rfl], fun b hb => by funext k; exact pm_ne hb k⟩
