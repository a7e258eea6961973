/-! ===== nights ===== -/
def cldV (μ0 : ic_M) (k : Nat) : Int32 := (fX9_coldOf μ0 (nI k)).getD 0
def cldN (μ0 : ic_M) (k : Nat) : Nat := (cldV μ0 k + 10).toNatClampNeg
def curN (μ0 : ic_M) (c : Nat) : Nat := ((fX9_currentOf μ0 (nI c)).getD 0).toNatClampNeg
theorem cld_fr {m μ0 : ic_M} (h1 : m 92 = μ0 92) (h2 : m 93 = μ0 93) (x : Int32) : fX9_coldOf m x = fX9_coldOf μ0 x := by
  unfold fX9_coldOf ic_ag
  rw [h1, h2]
theorem cur_fr {m μ0 : ic_M} (h1 : m 92 = μ0 92) (h2 : m 93 = μ0 93) (x : Int32) : fX9_currentOf m x = fX9_currentOf μ0 x := by
  unfold fX9_currentOf ic_ag
  rw [h1, h2]
/-- inches behind a night -/
def inN (n v u : Nat) (sn : Bool) : Nat := if v ≤ 10 then n + v - (10 + u) else min 60 (n + cond sn ((v - 10 - u) / 2) (v - 10 - u))
theorem inN_le {n v u : Nat} {sn : Bool} (h : n ≤ 60) : inN n v u sn ≤ 60 := by
  unfold inN
  split <;> omega
theorem cold_neg {n v u : Nat} (hn : n ≤ 60) (hv : v ≤ 20) (hu : u ≤ 9) : nI n + (nI v - 10) - nI u = nI (n + v) - nI (10 + u) ∧ nI n + (nI v - 10 - nI u) = nI (n + v) - nI (10 + u) := by
  have a1 : (nI v - 10).toInt = (v : Int) - 10 := pk_sub_toInt (b := 10) (by omega) (by omega)
  have a2 : (nI (n + v) - nI (10 + u)).toInt = ((n + v : Nat) : Int) - ((10 + u : Nat) : Int) := pk_sub_toInt (by omega) (by omega)
  have a3 : (nI n + (nI v - 10)).toInt = (n : Int) + (v - 10) := by
    rw [Int32.toInt_add, a1, nI_toInt (by omega)]
    apply Int.bmod_eq_of_le <;> omega
  have a4 : (nI v - 10 - nI u).toInt = (v : Int) - 10 - u := by
    rw [Int32.toInt_sub, a1, nI_toInt (by omega)]
    apply Int.bmod_eq_of_le <;> omega
  constructor
  · apply Int32.toInt_inj.mp
    rw [a2, Int32.toInt_sub, a3, nI_toInt (by omega)]
    rw [Int.bmod_eq_of_le (by omega) (by omega)]
    omega
  · apply Int32.toInt_inj.mp
    rw [a2, Int32.toInt_add, a4, nI_toInt (by omega)]
    rw [Int.bmod_eq_of_le (by omega) (by omega)]
    omega
theorem cold_le {v : Nat} (hv : v ≤ 20) : (nI v - 10 ≤ 0) = (v ≤ 10) := by
  apply propext
  rw [Int32.le_iff_toInt_le, show (nI v - 10).toInt = (v : Int) - 10 from pk_sub_toInt (b := 10) (by omega) (by omega), Int32.toInt_zero]
  omega
theorem c_after {m : ic_M} {R n v u c : Nat} {sn : Bool} (hn : n ≤ 60) (hv : v ≤ 20) (hu : u ≤ 9) (hc : fX5_currentAt m R (nI c) = some (nI u)) : fX5_inchesAfter m R (nI n) (nI c) (nI v - 10) (bI sn) = some (nI (inN n v u sn)) := by
  unfold fX5_inchesAfter inN
  rw [hc, bd_some, bd_some]
  simp only [cold_le hv]
  by_cases h : v ≤ 10
  · rw [if_pos h, if_pos h, (cold_neg hn hv hu).1]
    by_cases h2 : 10 + u < n + v
    · rw [pk_sub (by omega), if_pos (show (0 : Int32) < nI (n + v - (10 + u)) from nI_lt (a := 0) (by omega) (by omega))]
    · rw [if_neg (by
        rw [Int32.lt_iff_toInt_lt, pk_sub_toInt (by omega) (by omega), Int32.toInt_zero]; omega), show n + v - (10 + u) = 0 by omega]
      rfl
  · rw [if_neg h, if_neg h, show nI v - 10 = nI (v - 10) from pk_sub (b := 10) (by omega)]
    have e1 : (if (0 : Int32) < nI (v - 10) - nI u then nI (v - 10) - nI u else 0) = nI (v - 10 - u) := by
      by_cases h2 : u < v - 10
      · rw [pk_sub (by omega), if_pos (show (0 : Int32) < nI (v - 10 - u) from nI_lt (a := 0) (by omega) (by omega))]
      · rw [if_neg (by
          rw [Int32.lt_iff_toInt_lt, pk_sub_toInt (by omega) (by omega), Int32.toInt_zero]; omega), show v - 10 - u = 0 by omega]
        rfl
    rw [e1, lt_e]
    have e2 : (if bI sn = 0 then some (nI (v - 10 - u)) else if (2 : Int32) = 0 then none else some (nI (v - 10 - u) / 2)) = some (nI (cond sn ((v - 10 - u) / 2) (v - 10 - u))) := by
      cases sn
      · rfl
      · rw [bI_t, if_neg one_ne0, if_neg (by decide), show (2 : Int32) = nI 2 from rfl, pk_div (by omega) (by omega) (by omega)]
        rfl
    rw [e2, bd_some, nI_add]
    have hb : cond sn ((v - 10 - u) / 2) (v - 10 - u) ≤ 10 := by cases sn <;> simp <;> omega
    generalize cond sn ((v - 10 - u) / 2) (v - 10 - u) = t at hb ⊢
    by_cases h3 : n + t < 60
    · rw [if_pos (show nI (n + t) < (60 : Int32) from nI_lt (b := 60) h3 (by omega)), Nat.min_eq_right (by omega)]
    · rw [if_neg (show ¬ nI (n + t) < (60 : Int32) from nI_nlt (b := 60) (by omega) (by omega)), Nat.min_eq_left (by omega)]
      rfl
theorem m_after {n v u : Nat} {sn : Bool} {β : Type} {T : Int32 → Option β} (hn : n ≤ 60) (hv : v ≤ 20) (hu : u ≤ 9) : (Option.bind (if v ≤ 10 then some (nI v - 10 - nI u) else (if 0 ≤ nI v - 10 - nI u then some (nI v - 10 - nI u) else some (0 : Int32))) (fun q26 => Option.bind (if v ≤ 10 then some q26 else (if sn = false then some q26 else (if (2 : Int32) = 0 then none else some (q26 / (2 : Int32))))) (fun q27 => Option.bind (if 0 ≤ nI n + q27 then (if nI n + q27 ≤ (60 : Int32) then some (nI n + q27) else some (60 : Int32)) else some (0 : Int32)) T))) = T (nI (inN n v u sn)) := by
  unfold inN
  by_cases h : v ≤ 10
  · rw [if_pos h, bd_some, if_pos h, bd_some, if_pos h, (cold_neg hn hv hu).2]
    by_cases h2 : 10 + u ≤ n + v
    · rw [pk_sub (by omega), if_pos (show (0 : Int32) ≤ nI (n + v - (10 + u)) from nI_le (a := 0) (by omega) (by omega)), if_pos (show nI (n + v - (10 + u)) ≤ (60 : Int32) from nI_le (b := 60) (by omega) (by omega)), bd_some]
    · rw [if_neg (by
        rw [Int32.le_iff_toInt_le, pk_sub_toInt (by omega) (by omega), Int32.toInt_zero]; omega), bd_some, show n + v - (10 + u) = 0 by omega]
      rfl
  · simp only [if_neg h]
    rw [show nI v - 10 = nI (v - 10) from pk_sub (b := 10) (by omega)]
    have e1 : (if (0 : Int32) ≤ nI (v - 10) - nI u then some (nI (v - 10) - nI u) else some 0) = some (nI (v - 10 - u)) := by
      by_cases h2 : u ≤ v - 10
      · rw [pk_sub (by omega), if_pos (show (0 : Int32) ≤ nI (v - 10 - u) from nI_le (a := 0) (by omega) (by omega))]
      · rw [if_neg (by
          rw [Int32.le_iff_toInt_le, pk_sub_toInt (by omega) (by omega), Int32.toInt_zero]; omega), show v - 10 - u = 0 by omega]
        rfl
    rw [e1, bd_some]
    have e2 : (if sn = false then some (nI (v - 10 - u)) else if (2 : Int32) = 0 then none else some (nI (v - 10 - u) / 2)) = some (nI (cond sn ((v - 10 - u) / 2) (v - 10 - u))) := by
      cases sn
      · rfl
      · rw [if_neg (by simp), if_neg (by decide), show (2 : Int32) = nI 2 from rfl, pk_div (by omega) (by omega) (by omega)]
        rfl
    rw [e2, bd_some, nI_add]
    have hb : cond sn ((v - 10 - u) / 2) (v - 10 - u) ≤ 10 := by cases sn <;> simp <;> omega
    generalize cond sn ((v - 10 - u) / 2) (v - 10 - u) = t at hb ⊢
    rw [if_pos (show (0 : Int32) ≤ nI (n + t) from nI_le (a := 0) (by omega) (by omega))]
    by_cases h3 : n + t ≤ 60
    · rw [if_pos (show nI (n + t) ≤ (60 : Int32) from nI_le (b := 60) h3 (by omega)), bd_some, Nat.min_eq_right (by omega)]
    · rw [if_neg (show ¬ nI (n + t) ≤ (60 : Int32) from nI_ge (a := 60) (by omega) (by omega)), bd_some, Nat.min_eq_left (by omega)]
      rfl
section NIG
variable {sw : Nat} {m μ0 : ic_M} {q : Nat → Int32} {W H S P a r k : Nat} {s : iceS}
theorem cld_e (e : env (ic_ld sw) m q W H S P) (h1 : m 92 = μ0 92) (h2 : m 93 = μ0 93) (hW : 0 < W) (hk : k < 2 ^ 31) : cldN μ0 k ≤ 20 ∧ fX5_coldOf m (ic_ld sw) (nI k) = some (nI (cldN μ0 k) - 10) ∧ fX9_coldOf m (nI k) = some (nI (cldN μ0 k) - 10) := by
  obtain ⟨v, h3, h4, h5⟩ := cm_cold e.1 hW hk
  have e1 : cldN μ0 k = v := by
    unfold cldN cldV
    rw [← cld_fr h1 h2, h5]
    show (nI v - 10 + 10).toNatClampNeg = v
    rw [Int32.sub_add_cancel, nI_clamp (by omega)]
  rw [e1]
  exact ⟨h3, h4, h5⟩
theorem cur_e {c : Nat} (e : env (ic_ld sw) m q W H S P) (h1 : m 92 = μ0 92) (h2 : m 93 = μ0 93) (hc : c < W * H) : curN μ0 c ≤ 9 ∧ fX5_currentAt m (ic_ld sw) (nI c) = some (nI (curN μ0 c)) ∧ fX9_currentOf m (nI c) = some (nI (curN μ0 c)) := by
  obtain ⟨v, h3, h4, h5⟩ := cm_current e.1 hc
  have e1 : curN μ0 c = v := by
    unfold curN
    rw [← cur_fr h1 h2, h5]
    show (nI v).toNatClampNeg = v
    rw [nI_clamp (by omega)]
  rw [e1]
  exact ⟨h3, h4, h5⟩
/-- who stands on a hole drowns -/
def drwS (N P : Nat) (s : iceS) : iceS := (sI s, fun p => if p < P ∧ inS (bs (fun c => decide (sI s c = 0)) N) (sP s p) = true then -2 else sP s p, sSn s, sNi s, sOw s, sBr s)
def frzS (μ0 : ic_M) (N : Nat) (s : iceS) : iceS := (fun c => if c < N then nI (inN (sI s c).toNatClampNeg (cldN μ0 (sNi s).toNatClampNeg) (curN μ0 c) (bt (sSn s) c)) else sI s c, sP s, if cldN μ0 (sNi s).toNatClampNeg ≤ 10 then 0 else sSn s, sNi s + 1, sOw s, sBr s)
def pasS (μ0 : ic_M) (q : Nat → Int32) (W H S P : Nat) (s : iceS) : iceS := drwS (W * H) P (brkS q W H S P (frzS μ0 (W * H) s))
theorem frz_g (hN : W * H ≤ 18) (hg : gI (sI s)) : gI (sI (frzS μ0 (W * H) s)) := by
  intro c hc
  obtain ⟨n, hn, e⟩ := hg c hc
  show ∃ n, n ≤ 60 ∧ (if c < W * H then nI (inN (sI s c).toNatClampNeg (cldN μ0 (sNi s).toNatClampNeg) (curN μ0 c) (bt (sSn s) c)) else sI s c) = nI n
  split
  · rw [e, nI_clamp (by omega)]
    exact ⟨_, inN_le hn, rfl⟩
  · exact ⟨n, hn, e⟩
theorem brk_v (hv : ∀ p, p < P → vP (W * H) (sP s p)) : ∀ p, p < P → vP (W * H) (sP (brkS q W H S P s) p) := by
  intro p hp
  show vP (W * H) (if p < P ∧ inS (bs (ovS q W H S P s) (W * H)) (sP s p) = true then -2 else sP s p)
  split
  · exact Or.inl rfl
  · exact hv p hp
theorem brk_g (hg : gI (sI s)) : gI (sI (brkS q W H S P s)) := by
  intro c hc
  show ∃ n, n ≤ 60 ∧ (if c < W * H ∧ ovS q W H S P s c = true then 0 else sI s c) = nI n
  split
  · exact ⟨0, by omega, rfl⟩
  · exact hg c hc
theorem c_drw {x : Int32} (e : env (ic_ld sw) m q W H S P) (har : a + 2 < 78) (hA : icA m a s) : ∃ m', fX1_drownOn m a (ic_ld sw) x = some m' ∧ icA m' a (sI s, fun p => if p < P ∧ inS x (sP s p) = true then -2 else sP s p, sSn s, sNi s, sOw s, sBr s) ∧ ∀ b, b ≠ a + 2 → m' b = m b := by
  obtain ⟨ho, hr, hm, hl, hpp⟩ := e.1
  have hP := rOK_P ho
  have hl := ld_hi sw
  refine ⟨_, c_drownOn (by omega) hr.2.2.2.2 hP, ⟨fun c hc => ?_, fun p hp => ?_, ?_, ?_, ?_, ?_⟩, fun b hb => ?_⟩
  · rw [pm_ne (by omega)]; exact hA.1 c hc
  · show _ = if p < P ∧ inS x (sP s p) = true then -2 else sP s p
    by_cases h : p < P
    · rw [pm_in0 h, hA.2.1 p hp]; simp [h]
    · rw [pm_ge (by omega), hA.2.1 p hp]; simp [h]
  · rw [pm_ne (by omega)]; exact hA.2.2.1
  · rw [pm_ne (by omega)]; exact hA.2.2.2.1
  · rw [pm_ne (by omega)]; exact hA.2.2.2.2.1
  · rw [pm_ne (by omega)]; exact hA.2.2.2.2.2
  · funext k; exact pm_ne hb k
theorem m_drw (e : env (ic_ld sw) m q W H S P) (h9 : r = 98 ∨ r = 99) (hA : rwA m r s) (hv : ∀ p, p < P → vP (W * H) (sP s p)) : ∃ m', fX9_drowns m r = some m' ∧ rwA m' r (drwS (W * H) P s) ∧ ∀ b, b ≠ r → m' b = m b := by
  obtain ⟨ho, hr, hm, hl, hpp⟩ := e.1
  have hP := rOK_P ho
  have hN := rOK_N ho
  have hil : ic_il 106 r = 28 := by rcases h9 with rfl | rfl <;> decide +kernel
  have k1 := for_M (lp := fun fu i x => lpX9_drowns_2 r fu (nI i) x) (M := pm m r 18 (fun p => inS (bs (fun c => decide (sI s c = 0)) (W * H)) (sP s p)) (fun _ => -2)) (fin := some (pm m r 18 (fun p => inS (bs (fun c => decide (sI s c = 0)) (W * H)) (sP s p)) (fun _ => -2) P)) P (by omega) (fun fu i hi => by
      have e18 : (18 : Int32) + nI i = nI (18 + i) := nI_add 18 i
      rw [lpX9_drowns_2, show ∀ q, ic_ag q 92 7 (3 : Int32) = ic_ag q 92 7 (nI 3) from fun _ => rfl, m_ag92 (by omega), pm_ne (by omega), hm.2.2.2, if_neg (nI_ge hi (by omega)), hil, e18, ag_n (by omega) (by omega), pm_ge (by omega), ag_n (by omega) (by omega), pm_ge (by omega), hA.2.1 i (by omega)]
      simp only [lt_e, nI_1]
      rcases hv i hi with h | h | ⟨b, hb, h⟩
      · rw [h, if_pos m2_lt, bd_some, ← pm_f (i := i) (by rw [h, inS_neg m2_lt])]
      · rw [h, if_pos m1_lt, bd_some, ← pm_f (i := i) (by rw [h, inS_neg m1_lt])]
      · rw [h, if_neg (nI_pos (by omega)), ag_n (by omega) (by omega), pm_ge (by omega), hA.1 b (by omega)]
        have hi2 : inS (bs (fun c => decide (sI s c = 0)) (W * H)) (sP s i) = decide (sI s b = 0) := by
          rw [h, inS_n (by omega), bs_lo (by omega) hb]
        by_cases h0 : sI s b = 0
        · rw [if_pos h0, as_n (by omega) (by omega), bd_some, ← pm_t (i := i) (by rw [hi2]; simp [h0])]
        · rw [if_neg h0, bd_some, ← pm_f (i := i) (by rw [hi2]; simp [h0])]) (fun fu => by
      rw [lpX9_drowns_2, show ∀ q, ic_ag q 92 7 (3 : Int32) = ic_ag q 92 7 (nI 3) from fun _ => rfl, m_ag92 (by omega), pm_ne (by omega), hm.2.2.2, if_pos (by exact nI_le (Nat.le_refl _) (by omega))])
  rw [pm_0] at k1
  have k1 : lpX9_drowns_2 r 1000 0 m = _ := k1
  refine ⟨_, by unfold fX9_drowns; rw [k1]; rfl, ⟨fun c hc => ?_, fun p hp => ?_, ?_, ?_, ?_, ?_⟩, fun b hb => ?_⟩
  · rw [pm_ge (by omega)]; exact hA.1 c hc
  · show _ = if p < P ∧ inS (bs (fun c => decide (sI s c = 0)) (W * H)) (sP s p) = true then -2 else sP s p
    by_cases h : p < P
    · rw [pm_in h, hA.2.1 p hp]; simp [h]
    · rw [pm_ge (by omega), hA.2.1 p hp]; simp [h]
  · rw [pm_ge (by omega)]; exact hA.2.2.1
  · rw [pm_ge (by omega)]; exact hA.2.2.2.1
  · rw [pm_ge (by omega)]; exact hA.2.2.2.2.1
  · rw [pm_ge (by omega)]; exact hA.2.2.2.2.2
  · funext k; exact pm_ne hb k
theorem c_pass (e : env (ic_ld sw) m q W H S P) (h1 : m 92 = μ0 92) (h2 : m 93 = μ0 93) (hW : 0 < W) (har : a + 2 < 78) (hA : icA m a s) (hg : gI (sI s)) (hv : ∀ p, p < P → vP (W * H) (sP s p)) (hk : sNi s = nI k) (hk2 : k < 2 ^ 30) : ∃ m', fX1_passNight m a (ic_ld sw) = some m' ∧ icA m' a (pasS μ0 q W H S P s) ∧ ∀ b, b ≠ a → b ≠ a + 1 → b ≠ a + 2 → m' b = m b := by
  obtain ⟨ho, hr, hm, hl, hpp⟩ := id e.1
  have hP := rOK_P ho
  have hN := rOK_N ho
  have hl := ld_hi sw
  have hkk : (sNi s).toNatClampNeg = k := by rw [hk, nI_clamp (by omega)]
  obtain ⟨q1, q2, q3⟩ := cld_e e h1 h2 hW (k := k) (by omega)
  have lp1 : lpX1_passNight_11 a (ic_ld sw) (nI (cldN μ0 k) - 10) 1000 0 m = some (pm m (a + 1) 0 (fun _ => true) (sI (frzS μ0 (W * H) s)) (W * H)) := by
    have k1 := for_M (lp := fun fu i x => lpX1_passNight_11 a (ic_ld sw) (nI (cldN μ0 k) - 10) fu (nI i) x) (M := pm m (a + 1) 0 (fun _ => true) (sI (frzS μ0 (W * H) s))) (fin := some (pm m (a + 1) 0 (fun _ => true) (sI (frzS μ0 (W * H) s)) (W * H))) (W * H) (by omega) (fun fu i hi => by
        have ei : env (ic_ld sw) (pm m (a + 1) 0 (fun _ => true) (sI (frzS μ0 (W * H) s)) i) q W H S P := env_fr (fun b hb => by funext x; exact pm_ne (by omega) x) e
        obtain ⟨u1, u2, u3⟩ := cur_e (μ0 := μ0) (c := i) ei (by rw [← h1]; funext x; exact pm_ne (by omega) x) (by rw [← h2]; funext x; exact pm_ne (by omega) x) hi
        obtain ⟨n, hn, en⟩ := hg i (by omega)
        rw [lpX1_passNight_11, pm_ne (by omega), hr.2.2.2.1, if_neg (nI_ge hi (by omega)), c_inch (by omega), pm_ge (by omega), hA.1 i (by omega), bd_some, en]
        unfold fX1_isSnowy
        rw [pm_ne (by omega), hA.2.2.1, isIn_e _ (by omega), bd_some, rz_b, bd_some, c_after hn q1 u1 u2, bd_some, c_setI (by omega), bd_some, lt_e, nI_1, ← pm_t (i := i) rfl, Nat.zero_add]
        have ef : sI (frzS μ0 (W * H) s) i = nI (inN n (cldN μ0 k) (curN μ0 i) (bt (sSn s) i)) := by
          show (if i < W * H then nI (inN (sI s i).toNatClampNeg (cldN μ0 (sNi s).toNatClampNeg) (curN μ0 i) (bt (sSn s) i)) else sI s i) = _
          rw [if_pos hi, hkk, en, nI_clamp (by omega)]
        rw [ef]) (fun fu => by
        rw [lpX1_passNight_11, pm_ne (by omega), hr.2.2.2.1, if_pos (by exact nI_le (Nat.le_refl _) (by omega))])
    rw [pm_0] at k1
    exact k1
  generalize hm1 : pm m (a + 1) 0 (fun _ => true) (sI (frzS μ0 (W * H) s)) (W * H) = m1 at lp1
  have f1 : ∀ b, b ≠ a + 1 → m1 b = m b := fun b hb => by rw [← hm1]; funext x; exact pm_ne hb x
  have hsn : Option.bind (if (0 : Int32) < nI (cldN μ0 k) - 10 then some m1 else ic_pu m1 a 2 (0 : Int32) (fun m29 => some m29)) (fun q28 => ic_pu q28 a 3 ((q28 a 3) + (1 : Int32)) (fun m30 => some m30)) = some (ic_up (ic_up m1 a 2 (sSn (frzS μ0 (W * H) s))) a 3 (sNi s + 1)) := by
    have e0 : ((0 : Int32) < nI (cldN μ0 k) - 10) ↔ ¬ cldN μ0 k ≤ 10 := by
      rw [← cold_le q1, Int32.lt_iff_toInt_lt, Int32.le_iff_toInt_le, Int32.toInt_zero]; omega
    have es : sSn (frzS μ0 (W * H) s) = if cldN μ0 k ≤ 10 then 0 else sSn s := by rw [← hkk]; rfl
    rw [es]
    by_cases h : cldN μ0 k ≤ 10
    · rw [if_neg (fun h3 => e0.mp h3 h), pu_e, bd_some, pu_e, if_pos h, ic_up_eq, pk_un (by omega), f1 a (by omega), hA.2.2.2.1]
    · rw [if_pos (e0.mpr h), bd_some, pu_e, if_neg h, f1 a (by omega), hA.2.2.2.1]
      have : ic_up m1 a 2 (sSn s) = m1 := by
        rw [← hA.2.2.1, ← f1 a (by omega)]; exact up_same m1 a 2
      rw [this]
  generalize hm2 : ic_up (ic_up m1 a 2 (sSn (frzS μ0 (W * H) s))) a 3 (sNi s + 1) = m2 at hsn
  have f2 : ∀ b, b ≠ a → m2 b = m1 b := fun b hb => by rw [← hm2, ic_up_ne hb, ic_up_ne hb]
  have hA2 : icA m2 a (frzS μ0 (W * H) s) := by
    refine ⟨fun c hc => ?_, fun p hp => ?_, ?_, ?_, ?_, ?_⟩
    · rw [f2 _ (by omega), ← hm1]
      by_cases h : c < W * H
      · rw [pm_in0 h, if_pos rfl]
      · rw [pm_ge (by omega), hA.1 c hc]
        show sI s c = if c < W * H then _ else sI s c
        rw [if_neg h]
    · rw [f2 _ (by omega), f1 _ (by omega)]; exact hA.2.1 p hp
    · rw [← hm2, ic_up_eq, pk_un (by omega), ic_up_eq, pk_us]
    · rw [← hm2, ic_up_eq, pk_us]; rfl
    · rw [← hm2, ic_up_eq, pk_un (by omega), ic_up_eq, pk_un (by omega), f1 a (by omega)]; exact hA.2.2.2.2.1
    · rw [← hm2, ic_up_eq, pk_un (by omega), ic_up_eq, pk_un (by omega), f1 a (by omega)]; exact hA.2.2.2.2.2
  have e2 : env (ic_ld sw) m2 q W H S P := env_fr (fun b hb => by rw [f2 b (by omega), f1 b (by omega)]) e
  obtain ⟨m3, k1, k2, k3⟩ := c_brk e2 hA2 (by omega) hv
  have e3 : env (ic_ld sw) m3 q W H S P := env_fr (fun b hb => k3 b (by omega) (by omega) (by omega)) e2
  have hh := c_holes (a := a) e3.1.2.1 ho
  rw [bs_congr (f := fun c => decide (m3 (a + 1) c = 0)) (g := fun c => decide (sI (brkS q W H S P (frzS μ0 (W * H) s)) c = 0)) (fun c hc => by rw [k2.1 c (by omega)])] at hh
  obtain ⟨m4, j1, j2, j3⟩ := c_drw (x := bs (fun c => decide (sI (brkS q W H S P (frzS μ0 (W * H) s)) c = 0)) (W * H)) e3 har k2
  refine ⟨m4, ?_, j2, fun b b1 b2 b3 => by rw [j3 b b3, k3 b b1 b2 b3, f2 b b1, f1 b b2]⟩
  unfold fX1_passNight
  rw [hA.2.2.2.1, hk, q2, bd_some, lp1, bd_some]
  have e9 : ∀ (X : Option ic_M) (F : ic_M → Option ic_M), Option.bind X (fun q28 => ic_pu q28 a 3 ((q28 a 3) + (1 : Int32)) F) = Option.bind (Option.bind X (fun q28 => ic_pu q28 a 3 ((q28 a 3) + (1 : Int32)) (fun m30 => some m30))) F := fun X F => by
    cases X <;> rfl
  rw [e9, hsn, bd_some, k1, bd_some]
  dsimp only
  rw [hh, bd_some, j1, bd_some]
theorem m_pass (e : env (ic_ld sw) m q W H S P) (h1 : m 92 = μ0 92) (h2 : m 93 = μ0 93) (hW : 0 < W) (h9 : r = 98 ∨ r = 99) (hA : rwA m r s) (hg : gI (sI s)) (hv : ∀ p, p < P → vP (W * H) (sP s p)) (hk : sNi s = nI k) (hk2 : k < 2 ^ 30) : ∃ m', fX9_passes m r = some m' ∧ rwA m' r (pasS μ0 q W H S P s) ∧ ∀ b, b ≠ r → m' b = m b := by
  obtain ⟨ho, hr, hm, hl, hpp⟩ := id e.1
  have hP := rOK_P ho
  have hN := rOK_N ho
  have hil : ic_il 106 r = 28 := by rcases h9 with rfl | rfl <;> decide +kernel
  have hkk : (sNi s).toNatClampNeg = k := by rw [hk, nI_clamp (by omega)]
  obtain ⟨q1, q2, q3⟩ := cld_e e h1 h2 hW (k := k) (by omega)
  have lp1 : lpX9_passes_11 r (nI (cldN μ0 k) - 10) 1000 0 m = some (pm m r 0 (fun _ => true) (sI (frzS μ0 (W * H) s)) (W * H)) := by
    have k1 := for_M (lp := fun fu i x => lpX9_passes_11 r (nI (cldN μ0 k) - 10) fu (nI i) x) (M := pm m r 0 (fun _ => true) (sI (frzS μ0 (W * H) s))) (fin := some (pm m r 0 (fun _ => true) (sI (frzS μ0 (W * H) s)) (W * H))) (W * H) (by omega) (fun fu i hi => by
        have ei : env (ic_ld sw) (pm m r 0 (fun _ => true) (sI (frzS μ0 (W * H) s)) i) q W H S P := env_fr (fun b hb => by funext x; exact pm_ne (by omega) x) e
        obtain ⟨u1, u2, u3⟩ := cur_e (μ0 := μ0) (c := i) ei (by rw [← h1]; funext x; exact pm_ne (by omega) x) (by rw [← h2]; funext x; exact pm_ne (by omega) x) hi
        obtain ⟨n, hn, en⟩ := hg i (by omega)
        rw [lpX9_passes_11, m_cells ei.1.2.2.1, bd_some, if_neg (nI_ge hi (by omega)), u3, bd_some, lt_e, hil]
        have g24 : ∀ {α : Type} (T : Int32 → Option α), ic_ag (pm m r 0 (fun _ => true) (sI (frzS μ0 (W * H) s)) i) r 28 (24 : Int32) T = T (sSn s) := fun T => by
          rw [show ∀ m, ic_ag m r 28 (24 : Int32) T = ic_ag m r 28 (nI 24) T from fun _ => rfl, ag_n (by omega) (by omega), pm_ge (by omega), hA.2.2.1]
        have gi : ∀ {α : Type} (T : Int32 → Option α), ic_ag (pm m r 0 (fun _ => true) (sI (frzS μ0 (W * H) s)) i) r 28 (nI i) T = T (nI n) := fun T => by
          rw [ag_n (by omega) (by omega), pm_ge (by omega), hA.1 i (by omega), en]
        simp only [g24, gi, has_e _ (show i < 32 by omega), bd_some, bI_0, cold_le q1, lt_e, nI_1]
        rw [m_after hn q1 u1, as_n (by omega) (by omega), ← pm_t (i := i) rfl, Nat.zero_add]
        have ef : sI (frzS μ0 (W * H) s) i = nI (inN n (cldN μ0 k) (curN μ0 i) (bt (sSn s) i)) := by
          show (if i < W * H then nI (inN (sI s i).toNatClampNeg (cldN μ0 (sNi s).toNatClampNeg) (curN μ0 i) (bt (sSn s) i)) else sI s i) = _
          rw [if_pos hi, hkk, en, nI_clamp (by omega)]
        rw [ef]) (fun fu => by
        have ei : env (ic_ld sw) (pm m r 0 (fun _ => true) (sI (frzS μ0 (W * H) s)) (W * H)) q W H S P := env_fr (fun b hb => by funext x; exact pm_ne (by omega) x) e
        rw [lpX9_passes_11, m_cells ei.1.2.2.1, bd_some, if_pos (by exact nI_le (Nat.le_refl _) (by omega))])
    rw [pm_0] at k1
    exact k1
  generalize hm1 : pm m r 0 (fun _ => true) (sI (frzS μ0 (W * H) s)) (W * H) = m1 at lp1
  have f1 : ∀ b, b ≠ r → m1 b = m b := fun b hb => by rw [← hm1]; funext x; exact pm_ne hb x
  have f1r : ∀ x, W * H ≤ x → m1 r x = m r x := fun x hx => by rw [← hm1]; exact pm_ge (by omega)
  have es : sSn (frzS μ0 (W * H) s) = if cldN μ0 k ≤ 10 then 0 else sSn s := by rw [← hkk]; rfl
  generalize hm2 : ic_up m1 r 24 (sSn (frzS μ0 (W * H) s)) = m2
  have f2 : ∀ b, b ≠ r → m2 b = m1 b := fun b hb => by rw [← hm2, ic_up_ne hb]
  have hA2 : rwA m2 r (sI (frzS μ0 (W * H) s), sP s, sSn (frzS μ0 (W * H) s), sNi s, sOw s, sBr s) := by
    refine ⟨fun c hc => ?_, fun p hp => ?_, ?_, ?_, ?_, ?_⟩
    · rw [← hm2, ic_up_eq, pk_un (by omega), ← hm1]
      by_cases h : c < W * H
      · rw [pm_in0 h, if_pos rfl]
      · rw [pm_ge (by omega), hA.1 c hc]
        show sI s c = if c < W * H then _ else sI s c
        rw [if_neg h]
    · rw [← hm2, ic_up_eq, pk_un (by omega), f1r _ (by omega)]; exact hA.2.1 p hp
    · rw [← hm2, ic_up_eq, pk_us]
    · rw [← hm2, ic_up_eq, pk_un (by omega), f1r _ (by omega)]; exact hA.2.2.2.1
    · rw [← hm2, ic_up_eq, pk_un (by omega), f1r _ (by omega)]; exact hA.2.2.2.2.1
    · rw [← hm2, ic_up_eq, pk_un (by omega), f1r _ (by omega)]; exact hA.2.2.2.2.2
  have e2 : env (ic_ld sw) m2 q W H S P := env_fr (fun b hb => by rw [f2 b (by omega), f1 b (by omega)]) e
  obtain ⟨m3, k1, k2, k3⟩ := m_brk (t := -1) e2 h9 hA2 (frz_g hN hg) hv
  have e3 : env (ic_ld sw) m3 q W H S P := env_fr (fun b hb => k3 b (by omega)) e2
  obtain ⟨m4, j1, j2, j3⟩ := m_drw e3 h9 k2 (fun p hp => brk_v (s := (sI (frzS μ0 (W * H) s), sP s, sSn (frzS μ0 (W * H) s), sNi s, sOw s, sBr s)) hv p hp)
  refine ⟨ic_up m4 r 26 (sNi s + 1), ?_, ⟨fun c hc => ?_, fun p hp => ?_, ?_, ?_, ?_, ?_⟩, fun b hb => ?_⟩
  · unfold fX9_passes
    have g26 : ∀ {α : Type} (T : Int32 → Option α), ic_ag m r 28 (26 : Int32) T = T (nI k) := fun T => by
      rw [show ic_ag m r 28 (26 : Int32) T = ic_ag m r 28 (nI 26) T from rfl, ag_n (by omega) (by omega), hA.2.2.2.1, hk]
    rw [hil, g26, q3, bd_some, lp1, bd_some]
    have g24 : ∀ {α : Type} (T : Int32 → Option α), ic_ag m1 r 28 (24 : Int32) T = T (sSn s) := fun T => by
      rw [show ic_ag m1 r 28 (24 : Int32) T = ic_ag m1 r 28 (nI 24) T from rfl, ag_n (by omega) (by omega), f1r _ (by omega), hA.2.2.1]
    simp only [g24, cold_le q1]
    have eq1 : (if cldN μ0 k ≤ 10 then some (0 : Int32) else some (sSn s)) = some (sSn (frzS μ0 (W * H) s)) := by
      rw [es]; split <;> rfl
    rw [eq1, bd_some, show ic_as m1 r 28 (24 : Int32) = ic_as m1 r 28 (nI 24) from rfl, as_n (by omega) (by omega), hm2, k1, bd_some]
    dsimp only
    rw [j1, bd_some, show ic_ag m4 r 28 (26 : Int32) = ic_ag m4 r 28 (nI 26) from rfl, ag_n (by omega) (by omega), show ic_as m4 r 28 (26 : Int32) = ic_as m4 r 28 (nI 26) from rfl, as_n (by omega) (by omega), j2.2.2.2.1]
    rfl
  · rw [ic_up_eq, pk_un (by omega)]; exact j2.1 c hc
  · rw [ic_up_eq, pk_un (by omega)]; exact j2.2.1 p hp
  · rw [ic_up_eq, pk_un (by omega)]; exact j2.2.2.1
  · rw [ic_up_eq, pk_us]; rfl
  · rw [ic_up_eq, pk_un (by omega), j2.2.2.2.2.1]
    show (if 0 < _ ∧ sOw s = -1 then -1 else sOw s) = sOw s
    by_cases h : sOw s = -1
    · rw [h]; exact ite_self _
    · exact if_neg (fun h2 => h h2.2)
  · rw [ic_up_eq, pk_un (by omega)]; exact j2.2.2.2.2.2
  · rw [ic_up_ne hb, j3 b hb, k3 b hb, f2 b hb, f1 b hb]
theorem gS_pas (hP : P ≤ 6) (hN : W * H ≤ 18) (g : gS s (W * H) P) (hk : sNi s = nI k) (hk2 : k < 9060) : gS (pasS μ0 q W H S P s) (W * H) P ∧ sNi (pasS μ0 q W H S P s) = nI (k + 1) := by
  have hni : sNi (pasS μ0 q W H S P s) = nI (k + 1) := by
    show sNi s + 1 = nI (k + 1)
    rw [hk, nI_1]
  have hg2 := brk_g (q := q) (W := W) (H := H) (S := S) (P := P) (frz_g (μ0 := μ0) hN g.1)
  have hv2 := brk_v (q := q) (S := S) (s := frzS μ0 (W * H) s) g.2.1
  refine ⟨⟨hg2, fun p hp => ?_, fun p hp c hc e => ?_, ⟨k + 1, by omega, hni⟩, fun h0 p h1 h2 => ?_⟩, hni⟩
  · show vP (W * H) (if p < P ∧ inS (bs (fun c => decide (sI (brkS q W H S P (frzS μ0 (W * H) s)) c = 0)) (W * H)) (sP (brkS q W H S P (frzS μ0 (W * H) s)) p) = true then -2 else sP (brkS q W H S P (frzS μ0 (W * H) s)) p)
    split
    · exact Or.inl rfl
    · exact hv2 p hp
  · have e : (if p < P ∧ inS (bs (fun c => decide (sI (brkS q W H S P (frzS μ0 (W * H) s)) c = 0)) (W * H)) (sP (brkS q W H S P (frzS μ0 (W * H) s)) p) = true then -2 else sP (brkS q W H S P (frzS μ0 (W * H) s)) p) = nI c := e
    show ¬ sI (brkS q W H S P (frzS μ0 (W * H) s)) c = 0
    by_cases h : p < P ∧ inS (bs (fun c => decide (sI (brkS q W H S P (frzS μ0 (W * H) s)) c = 0)) (W * H)) (sP (brkS q W H S P (frzS μ0 (W * H) s)) p) = true
    · rw [if_pos h] at e
      exact absurd e (m2_ne (by omega))
    · rw [if_neg h] at e
      intro h0
      exact h ⟨hp, by rw [e, inS_n (by omega), bs_lo (by omega) hc]; simp [h0]⟩
  · show (if p < P ∧ _ then -2 else (if p < P ∧ _ then -2 else sP s p)) = -1
    rw [if_neg (by omega), if_neg (by omega)]
    exact g.2.2.2.2 h0 p h1 h2
end NIG
