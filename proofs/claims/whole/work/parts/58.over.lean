/-! ===== over ===== -/
def sfF (q : Nat → Int32) (W H S P : Nat) (s : iceS) (p c : Nat) : Bool := decide (¬ sI s c = 0) && decide (bs (ovS q W H S P (putS s p (nI c))) (W * H) = 0)
section OVR
variable {sw : Nat} {m : ic_M} {q : Nat → Int32} {W H S P p c : Nat} {s : iceS}
theorem put_ic {m : ic_M} {s : iceS} {p : Nat} {x y : Int32} (hp : p < 6) (hA : icA m 58 (putS s p x)) : icA (ic_up m 60 p y) 58 (putS s p y) := by
  refine ⟨fun c hc => ?_, fun p' hp' => ?_, ?_, ?_, ?_, ?_⟩
  · rw [ic_up_ne (by omega)]; exact hA.1 c hc
  · show ic_up m 60 p y 60 p' = if p' = p then y else sP s p'
    rw [ic_up_eq]
    by_cases h : p' = p
    · rw [if_pos h, h, pk_us]
    · rw [if_neg h, pk_un h]
      have : m 60 p' = if p' = p then x else sP s p' := hA.2.1 p' hp'
      rw [this, if_neg h]
  · rw [ic_up_ne (by omega)]; exact hA.2.2.1
  · rw [ic_up_ne (by omega)]; exact hA.2.2.2.1
  · rw [ic_up_ne (by omega)]; exact hA.2.2.2.2.1
  · rw [ic_up_ne (by omega)]; exact hA.2.2.2.2.2
theorem c_safe (e : env (ic_ld sw) m q W H S P) (hA : icA m 4 s) (hp : p < P) (hv : ∀ p, p < P → vP (W * H) (sP s p)) : ∃ m', fX7_safeFor m (ic_ld sw) 4 (nI p) = some (bs (sfF q W H S P s p) (W * H), m') ∧ ∀ b, ¬ (58 ≤ b ∧ b ≤ 60) → m' b = m b := by
  obtain ⟨ho, hr, hm, hl, hpp⟩ := id e.1
  have hN := rOK_N ho
  have hP := rOK_P ho
  have hld := ld_hi sw
  obtain ⟨m1, k1, k2, k3⟩ := c_copy (a := 58) (b := 4) (Or.inr (by omega)) hA
  have k2' : icA m1 58 (putS s p (sP s p)) := ⟨k2.1, fun p' hp' => by
    rw [k2.2.1 p' hp']
    show sP s p' = if p' = p then sP s p else sP s p'
    split
    · rename_i h; rw [h]
    · rfl, k2.2.2⟩
  have cls := for_R (lp := fun fu i (y : Int32 × ic_M) => lpX7_safeFor_14 (ic_ld sw) (nI p) fu y.1 (nI i) y.2) (Q := fun y => y.1 = bs (sfF q W H S P s p) (W * H) ∧ ∀ b, ¬ (58 ≤ b ∧ b ≤ 60) → y.2 b = m b) (W * H) (by omega) (fun i y => y.1 = bs (sfF q W H S P s p) i ∧ (∃ x, icA y.2 58 (putS s p x)) ∧ ∀ b, ¬ (58 ≤ b ∧ b ≤ 60) → y.2 b = m b) (fun fu i y hi hI2 => by
    obtain ⟨i1, ⟨x, i2⟩, i3⟩ := hI2
    have e1 : env (ic_ld sw) (ic_up y.2 60 p (nI i)) q W H S P := env_fr (fun b hb => by rw [ic_up_ne (by omega), i3 b (by omega)]) e
    have hA1 := put_ic (y := nI i) (show p < 6 by omega) i2
    have hov : fX1_overloaded (ic_up y.2 60 p (nI i)) 58 (ic_ld sw) = some (bs (ovS q W H S P (putS s p (nI i))) (W * H)) := by
      rw [c_ovl (a := 58) e1.1.2.1 ho (fun p' hp' => by
        rw [hA1.2.1 p' (by omega)]
        exact put_v (Or.inr (Or.inr ⟨i, hi, rfl⟩)) hv p' hp')]
      exact congrArg some (bs_congr (fun c hc => ov_c e1 hA1 (by omega)))
    refine ⟨(if sfF q W H S P s p i = true then y.1 ||| ((1 : Int32) <<< (nI i &&& 31)) else y.1, ic_up y.2 60 p (nI i)), ?_, bs_push i1, ⟨_, hA1⟩, fun b hb => ?_⟩
    · rw [lpX7_safeFor_14, i3 (ic_ld sw) (by omega), hr.2.2.2.1, if_neg (nI_ge hi (by omega)), c_putP (by omega), bd_some, show ic_up y.2 (58 + 2) p (nI i) = ic_up y.2 60 p (nI i) from rfl, c_hole (by omega), bd_some, hA1.1 i (by omega), hov, bd_some]
      simp only [lt_e, nI_1, bI_0]
      show _ = lpX7_safeFor_14 (ic_ld sw) (nI p) fu (if (decide (¬ sI s i = 0) && decide (bs (ovS q W H S P (putS s p (nI i))) (W * H) = 0)) = true then y.1 ||| ((1 : Int32) <<< (nI i &&& 31)) else y.1) _ _
      have eI : sI (putS s p (nI i)) i = sI s i := rfl
      rw [eI]
      by_cases h0 : sI s i = 0
      · simp [h0, bd_some]
      · by_cases h1 : bs (ovS q W H S P (putS s p (nI i))) (W * H) = 0
        · simp [h0, h1, bd_some]
        · simp [h0, h1, bd_some]
    · show ic_up y.2 60 p (nI i) b = m b
      rw [ic_up_ne (by omega), i3 b hb]) (fun fu y hI2 => ⟨y, by
    rw [lpX7_safeFor_14, hI2.2.2 (ic_ld sw) (by omega), hr.2.2.2.1, if_pos (by exact nI_le (Nat.le_refl _) (by omega))], hI2.1, hI2.2.2⟩) (0, m1) ⟨rfl, ⟨_, k2'⟩, fun b hb => k3 b (by omega) (by omega) (by omega)⟩
  obtain ⟨y1, c1, c2, c3⟩ := cls
  have c1 : lpX7_safeFor_14 (ic_ld sw) (nI p) 1000 0 0 m1 = some y1 := c1
  refine ⟨y1.2, ?_, c3⟩
  unfold fX7_safeFor
  rw [k1, bd_some, c1, bd_some, ← c2]
theorem m_safe (e : env (ic_ld sw) m q W H S P) (hA : rwA m 98 s) (hg : gI (sI s)) (hp : p < P) (hv : ∀ p, p < P → vP (W * H) (sP s p)) (hc : c < W * H) : ∃ m', fX9_isSafe m (nI p) (nI c) = some (bI (sfF q W H S P s p c), m') ∧ ∀ b, b ≠ 99 → m' b = m b := by
  obtain ⟨ho, hr, hm, hl, hpp⟩ := id e.1
  have hN := rOK_N ho
  have hP := rOK_P ho
  obtain ⟨m1, k1, k2, k3⟩ := m_tries hA
  have e1 : env (ic_ld sw) (ic_up m1 99 (18 + p) (nI c)) q W H S P := env_fr (fun b hb => by rw [ic_up_ne (by omega), k3 b (by omega)]) e
  have hA1 : rwA (ic_up m1 99 (18 + p) (nI c)) 99 (putS s p (nI c)) := by
    refine ⟨fun d hd => ?_, fun p' hp' => ?_, ?_, ?_, ?_, ?_⟩
    · rw [ic_up_eq, pk_un (by omega)]; exact k2.1 d hd
    · rw [ic_up_eq]
      show _ = if p' = p then nI c else sP s p'
      by_cases h : p' = p
      · rw [if_pos h, h, pk_us]
      · rw [if_neg h, pk_un (by omega)]; exact k2.2.1 p' hp'
    · rw [ic_up_eq, pk_un (by omega)]; exact k2.2.2.1
    · rw [ic_up_eq, pk_un (by omega)]; exact k2.2.2.2.1
    · rw [ic_up_eq, pk_un (by omega)]; exact k2.2.2.2.2.1
    · rw [ic_up_eq, pk_un (by omega)]; exact k2.2.2.2.2.2
  have hov : fX9_breaking (ic_up m1 99 (18 + p) (nI c)) 99 = some (bs (ovS q W H S P (putS s p (nI c))) (W * H)) := by
    rw [m_ovl il_m.2.1 e1.1.2.2.1 ho (fun d hd => by rw [hA1.1 d hd]; exact hg d hd) (fun p' hp' => by
      rw [hA1.2.1 p' (by omega)]
      exact put_v (Or.inr (Or.inr ⟨c, hc, rfl⟩)) hv p' hp')]
    exact congrArg some (bs_congr (fun d hd => ov_m e1 hA1 (by omega)))
  refine ⟨ic_up m1 99 (18 + p) (nI c), ?_, fun b hb => by rw [ic_up_ne hb, k3 b hb]⟩
  unfold fX9_isSafe sfF
  rw [k1, bd_some, show (18 : Int32) + nI p = nI (18 + p) from nI_add 18 p, as_n (by omega) (by omega), ag_n (by omega) (by omega), ic_up_ne (by omega), k3 98 (by omega), hA.1 c (by omega), hov, bd_some]
  simp only [gI_le hg (show c < 18 by omega)]
  by_cases h0 : sI s c = 0
  · simp [h0, bd_some, rz_0, bI]
  · by_cases h1 : bs (ovS q W H S P (putS s p (nI c))) (W * H) = 0
    · simp [h0, h1, bd_some, rz_1, bI]
    · simp [h0, h1, bd_some, rz_0, bI]
/-- the reference's row of distances -/
def arF (m : ic_M) (N : Nat) (F : Nat → Nat) : Prop := ∀ c, c < N → m 106 c = nI (F c)
theorem m_col0 {x2 x1 : Int32} {cx : Nat} (e : env (ic_ld sw) m q W H S P) (hx : x2 = nI cx) (hcx : cx < 7) : ∃ m', lpX9_measures_17 x1 x2 1000 0 m = some m' ∧ arF m' (W * H) (fr0 W cx) ∧ ∀ b, b ≠ 106 → m' b = m b := by
  obtain ⟨ho, hr, hm, hl, hpp⟩ := id e.1
  have hN := rOK_N ho
  have k := for_M (lp := fun fu i x => lpX9_measures_17 x1 x2 fu (nI i) x) (M := pm m 106 0 (fun _ => true) (fun c => nI (fr0 W cx c))) (fin := some (pm m 106 0 (fun _ => true) (fun c => nI (fr0 W cx c)) (W * H))) (W * H) (by omega) (fun fu i hi => by
      have hy := rOK_y ho hi
      have hW := hy.1
      have hW6 := hy.2.1
      have hmod := Nat.mod_lt i (show W > 0 by omega)
      have hmi : mR (pm m 106 0 (fun _ => true) (fun c => nI (fr0 W cx c)) i) W H S P := mR_fr (by funext x; exact pm_ne (by omega) x) hm
      rw [lpX9_measures_17, m_cells hmi, bd_some, if_neg (nI_ge hi (by omega)), show ∀ (q : ic_M) (T : Int32 → Option ic_M), ic_ag q 92 7 (0 : Int32) T = ic_ag q 92 7 (nI 0) T from fun _ _ => rfl, m_ag92 (by omega), hmi.1, if_neg (nI_ne0 (by omega) (by omega)), pk_rem (by omega) (by omega) (by omega), hx]
      have e1 : (if nI (i % W) = nI cx then some (0 : Int32) else some 99) = some (nI (fr0 W cx i)) := by
        unfold fr0
        by_cases h : i % W = cx
        · rw [if_pos (congrArg nI h), if_pos h]; rfl
        · rw [if_neg (fun h2 => h ((nI_eq (by omega) (by omega)).mp h2)), if_neg h]; rfl
      rw [e1, bd_some, as_n (by omega) (by omega), lt_e, nI_1, ← pm_t (i := i) rfl, Nat.zero_add]) (fun fu => by
      rw [lpX9_measures_17, m_cells (mR_fr (by funext x; exact pm_ne (by omega) x) hm), bd_some, if_pos (by exact nI_le (Nat.le_refl _) (by omega))])
  rw [pm_0] at k
  refine ⟨_, k, fun c hc => ?_, fun b hb => by funext x; exact pm_ne hb x⟩
  rw [pm_in0 hc, if_pos rfl]
theorem m_row {n : Nat} {F G : Nat → Nat} (e : env (ic_ld sw) m q W H S P) (hA : rwA m 98 s) (hg : gI (sI s)) (hp : p < P) (hv : ∀ p, p < P → vP (W * H) (sP s p)) (hc : c < W * H) (hn : n ≤ 18) (hG : ∀ o, o < W * H → G o ≤ 99) (hGF : ∀ o, o < W * H → (G o = n ↔ F o = n)) (hGc : G c = F c) (ar : arF m (W * H) G) : ∃ m', lpX9_measures_80 (nI p) (nI n) (nI c) 1000 0 m = some m' ∧ arF m' (W * H) (fun d => if d = c then frN W (W * H) (sfF q W H S P s p) n F c else G d) ∧ ∀ b, b ≠ 99 → b ≠ 106 → m' b = m b := by
  obtain ⟨ho, hr, hm, hl, hpp⟩ := id e.1
  have hN := rOK_N ho
  have hP := rOK_P ho
  have hy := rOK_y ho hc
  have hFc : F c ≤ 99 := by rw [← hGc]; exact hG c hc
  have val : ∀ i, (if n + 1 < F c ∧ anyB (fun o => adj W c o && (decide (F o = n) && sfF q W H S P s p o)) i = true then n + 1 else F c) ≤ 99 := fun i => by split <;> omega
  have key := for_R (lp := fun fu i x => lpX9_measures_80 (nI p) (nI n) (nI c) fu (nI i) x) (Q := fun m' => arF m' (W * H) (fun d => if d = c then frN W (W * H) (sfF q W H S P s p) n F c else G d) ∧ ∀ b, b ≠ 99 → b ≠ 106 → m' b = m b) (W * H) (by omega) (fun i m' => arF m' (W * H) (fun d => if d = c then (if n + 1 < F c ∧ anyB (fun o => adj W c o && (decide (F o = n) && sfF q W H S P s p o)) i = true then n + 1 else F c) else G d) ∧ ∀ b, b ≠ 99 → b ≠ 106 → m' b = m b) (fun fu i m' hi hI2 => by
    obtain ⟨a1, a2⟩ := hI2
    have e1 : env (ic_ld sw) m' q W H S P := env_fr (fun b hb => a2 b (by omega) (by omega)) e
    have hA1 : rwA m' 98 s := rwA_fr (a2 98 (by omega) (by omega)) hA
    generalize hv0 : (if n + 1 < F c ∧ anyB (fun o => adj W c o && (decide (F o = n) && sfF q W H S P s p o)) i = true then n + 1 else F c) = v0 at a1
    have hv99 : v0 ≤ 99 := by rw [← hv0]; exact val i
    have gc : m' 106 c = nI v0 := by
      have := a1 c hc
      dsimp only at this
      rwa [if_pos rfl] at this
    -- what comes behind this neighbour
    have nxtv : (if n + 1 < F c ∧ anyB (fun o => adj W c o && (decide (F o = n) && sfF q W H S P s p o)) (i + 1) = true then n + 1 else F c) = if adj W c i = true ∧ F i = n ∧ n + 1 < v0 ∧ sfF q W H S P s p i = true then n + 1 else v0 := by
      show (if n + 1 < F c ∧ (anyB (fun o => adj W c o && (decide (F o = n) && sfF q W H S P s p o)) i || (adj W c i && (decide (F i = n) && sfF q W H S P s p i))) = true then n + 1 else F c) = _
      rw [← hv0]
      by_cases h1 : n + 1 < F c
      · cases h2 : anyB (fun o => adj W c o && (decide (F o = n) && sfF q W H S P s p o)) i
        · simp only [h1, true_and, Bool.false_or, Bool.false_eq_true, if_false]
          by_cases h3 : (adj W c i && (decide (F i = n) && sfF q W H S P s p i)) = true
          · rw [if_pos h3]
            rw [Bool.and_eq_true, Bool.and_eq_true, decide_eq_true_eq] at h3
            rw [if_pos ⟨h3.1, h3.2.1, h3.2.2⟩]
          · rw [if_neg h3]
            rw [Bool.and_eq_true, Bool.and_eq_true, decide_eq_true_eq] at h3
            rw [if_neg (fun h4 => h3 ⟨h4.1, h4.2.1, h4.2.2⟩)]
        · simp only [h1, Bool.true_or, and_self, if_true]
          rw [if_neg (fun h4 => by have := h4.2.2.1; omega)]
      · simp only [h1, false_and, if_false, and_false]
    have arnext : ∀ m'' : ic_M, m'' 106 = upd (m' 106) c (nI (if adj W c i = true ∧ F i = n ∧ n + 1 < v0 ∧ sfF q W H S P s p i = true then n + 1 else v0)) → arF m'' (W * H) (fun d => if d = c then (if n + 1 < F c ∧ anyB (fun o => adj W c o && (decide (F o = n) && sfF q W H S P s p o)) (i + 1) = true then n + 1 else F c) else G d) := fun m'' hm'' d hd => by
      rw [hm'', nxtv]
      dsimp only
      by_cases h : d = c
      · rw [if_pos h, h, pk_us]
      · rw [if_neg h, pk_un h]
        have := a1 d hd
        dsimp only at this
        rwa [if_neg h] at this
    have same1 : ∀ m'' : ic_M, m'' 106 = m' 106 → ic_up m'' 106 c (nI v0) = m'' := fun m'' h => by
      rw [← gc, ← h]; exact up_same m'' 106 c
    rw [lpX9_measures_80, m_cells e1.1.2.2.1, bd_some, if_neg (nI_ge hi (by omega)), m_next e1.1.2.2.1 hy (by omega) (by omega), bd_some]
    cases ha : adj W c i
    · refine ⟨ic_up m' 106 c (nI v0), ?_, arnext _ (by rw [ic_up_eq, ha]; simp), fun b h1 h2 => by rw [ic_up_ne h2, a2 b h1 h2]⟩
      rw [bI_f, if_pos rfl, bd_some]
      dsimp only
      rw [if_pos rfl, ag_n (by omega) (by omega), gc, bd_some, as_n (by omega) (by omega), lt_e, nI_1]
    · have hic : i ≠ c := fun h => by
        rw [h, adj_self] at ha; cases ha
      have gi : m' 106 i = nI (G i) := by
        have := a1 i hi
        dsimp only at this
        rwa [if_neg hic] at this
      have hGi := hG i hi
      rw [bI_t, if_neg one_ne0, ag_n (by omega) (by omega), gi]
      by_cases h1 : F i = n
      · rw [if_pos (congrArg nI ((hGF i hi).mpr h1)), ag_n (by omega) (by omega), gc, nI_1]
        by_cases h2 : n + 1 < v0
        · rw [if_neg (nI_ge h2 (by omega))]
          obtain ⟨m2, j1, j2⟩ := m_safe (c := i) e1 hA1 hg hp hv hi
          have hm2 : m2 106 = m' 106 := j2 106 (by omega)
          rw [j1, bd_some]
          dsimp only
          cases hs : sfF q W H S P s p i
          · refine ⟨ic_up m2 106 c (nI v0), ?_, arnext _ (by rw [ic_up_eq, hm2, hs]; simp), fun b h1 h2 => by rw [ic_up_ne h2, j2 b h1, a2 b h1 h2]⟩
            rw [bI_f, if_pos rfl, bd_some]
            dsimp only
            rw [if_pos rfl, ag_n (by omega) (by omega), hm2, gc, bd_some, as_n (by omega) (by omega), lt_e, nI_1]
          · refine ⟨ic_up m2 106 c (nI (n + 1)), ?_, arnext _ (by rw [ic_up_eq, hm2, hs, if_pos ⟨ha, h1, h2, rfl⟩]), fun b h1 h2 => by rw [ic_up_ne h2, j2 b h1, a2 b h1 h2]⟩
            rw [bI_t, if_neg one_ne0, bd_some]
            dsimp only
            rw [if_neg one_ne0, bd_some, as_n (by omega) (by omega), lt_e, nI_1]
        · refine ⟨ic_up m' 106 c (nI v0), ?_, arnext _ (by rw [ic_up_eq, if_neg (fun h3 => h2 h3.2.2.1)]), fun b h1 h2 => by rw [ic_up_ne h2, a2 b h1 h2]⟩
          rw [if_pos (nI_le (by omega) (by omega)), bd_some]
          dsimp only
          rw [if_pos rfl, ag_n (by omega) (by omega), gc, bd_some, as_n (by omega) (by omega), lt_e, nI_1]
      · refine ⟨ic_up m' 106 c (nI v0), ?_, arnext _ (by rw [ic_up_eq, if_neg (fun h3 => h1 h3.2.1)]), fun b h1 h2 => by rw [ic_up_ne h2, a2 b h1 h2]⟩
        rw [if_neg (fun h3 => h1 ((hGF i hi).mp ((nI_eq (by omega) (by omega)).mp h3))), bd_some]
        dsimp only
        rw [if_pos rfl, ag_n (by omega) (by omega), gc, bd_some, as_n (by omega) (by omega), lt_e, nI_1]) (fun fu m' hI2 => ⟨m', by
    rw [lpX9_measures_80, m_cells (mR_fr (hI2.2 92 (by omega) (by omega)) hm), bd_some, if_pos (by exact nI_le (Nat.le_refl _) (by omega))], hI2⟩) m ⟨fun d hd => by
      dsimp only
      by_cases h : d = c
      · rw [if_pos h, if_neg (by simp [anyB]), h, ar c hc, hGc]
      · rw [if_neg h]; exact ar d hd, fun _ _ _ => rfl⟩
  exact key
end OVR
