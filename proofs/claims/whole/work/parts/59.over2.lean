/-! ===== over: the rows of distances, the loops, the call ===== -/
section OVT
variable {sw : Nat} {m : ic_M} {q : Nat → Int32} {W H S P p c : Nat} {s : iceS}
theorem m_m68 {n : Nat} {F : Nat → Nat} (e : env (ic_ld sw) m q W H S P) (hA : rwA m 98 s) (hg : gI (sI s)) (hp : p < P) (hv : ∀ p, p < P → vP (W * H) (sP s p)) (hn : n ≤ 18) (hF : ∀ o, o < W * H → F o ≤ 99) (ar : arF m (W * H) F) : ∃ m', lpX9_measures_68 (nI p) (nI n) 1000 0 m = some m' ∧ arF m' (W * H) (frN W (W * H) (sfF q W H S P s p) n F) ∧ ∀ b, b ≠ 99 → b ≠ 106 → m' b = m b := by
  obtain ⟨ho, hr, hm, hl, hpp⟩ := id e.1
  have hN := rOK_N ho
  have key := for_R (lp := fun fu i x => lpX9_measures_68 (nI p) (nI n) fu (nI i) x) (Q := fun m' => arF m' (W * H) (frN W (W * H) (sfF q W H S P s p) n F) ∧ ∀ b, b ≠ 99 → b ≠ 106 → m' b = m b) (W * H) (by omega) (fun i m' => arF m' (W * H) (fun d => if d < i then frN W (W * H) (sfF q W H S P s p) n F d else F d) ∧ ∀ b, b ≠ 99 → b ≠ 106 → m' b = m b) (fun fu i m' hi hI2 => by
    obtain ⟨a1, a2⟩ := hI2
    have e1 : env (ic_ld sw) m' q W H S P := env_fr (fun b hb => a2 b (by omega) (by omega)) e
    have hA1 : rwA m' 98 s := rwA_fr (a2 98 (by omega) (by omega)) hA
    obtain ⟨m2, j1, j2, j3⟩ := m_row (n := n) (F := F) (G := fun d => if d < i then frN W (W * H) (sfF q W H S P s p) n F d else F d) e1 hA1 hg hp hv hi hn (fun o ho => by
      have := hF o ho
      split
      · unfold frN
        split <;> omega
      · exact this) (fun o ho => by
      by_cases h : o < i
      · rw [if_pos h]
        unfold frN
        split
        · rename_i h1
          have := h1.1
          constructor
          · intro h2; omega
          · intro h2; omega
        · exact Iff.rfl
      · rw [if_neg h]) (by rw [if_neg (Nat.lt_irrefl _)]) a1
    refine ⟨m2, ?_, ?_, fun b h1 h2 => by rw [j3 b h1 h2, a2 b h1 h2]⟩
    · rw [lpX9_measures_68, m_cells e1.1.2.2.1, bd_some, if_neg (nI_ge hi (by omega)), j1, bd_some, lt_e, nI_1]
    · intro d hd
      have j := j2 d hd
      dsimp only at j
      rw [j]
      dsimp only
      by_cases h : d = i
      · subst h; rw [if_pos rfl, if_pos (by omega)]
      · rw [if_neg h]
        by_cases h2 : d < i
        · rw [if_pos h2, if_pos (by omega)]
        · rw [if_neg h2, if_neg (by omega)]) (fun fu m' hI2 => ⟨m', by
    rw [lpX9_measures_68, m_cells (mR_fr (hI2.2 92 (by omega) (by omega)) hm), bd_some, if_pos (by exact nI_le (Nat.le_refl _) (by omega))], fun d hd => by
      have j := hI2.1 d hd
      dsimp only at j
      rwa [if_pos hd] at j, hI2.2⟩) m ⟨fun d hd => by
      dsimp only
      rw [if_neg (by omega)]; exact ar d hd, fun _ _ _ => rfl⟩
  exact key
theorem m_m57 {cx : Nat} (e : env (ic_ld sw) m q W H S P) (hA : rwA m 98 s) (hg : gI (sI s)) (hp : p < P) (hv : ∀ p, p < P → vP (W * H) (sP s p)) (ar : arF m (W * H) (fr0 W cx)) : ∃ m', lpX9_measures_57 (nI p) 1000 0 m = some m' ∧ arF m' (W * H) (frI W (W * H) cx (sfF q W H S P s p) (W * H)) ∧ ∀ b, b ≠ 99 → b ≠ 106 → m' b = m b := by
  obtain ⟨ho, hr, hm, hl, hpp⟩ := id e.1
  have hN := rOK_N ho
  have key := for_R (lp := fun fu i x => lpX9_measures_57 (nI p) fu (nI i) x) (Q := fun m' => arF m' (W * H) (frI W (W * H) cx (sfF q W H S P s p) (W * H)) ∧ ∀ b, b ≠ 99 → b ≠ 106 → m' b = m b) (W * H) (by omega) (fun i m' => arF m' (W * H) (frI W (W * H) cx (sfF q W H S P s p) i) ∧ ∀ b, b ≠ 99 → b ≠ 106 → m' b = m b) (fun fu i m' hi hI2 => by
    obtain ⟨a1, a2⟩ := hI2
    have e1 : env (ic_ld sw) m' q W H S P := env_fr (fun b hb => a2 b (by omega) (by omega)) e
    have hA1 : rwA m' 98 s := rwA_fr (a2 98 (by omega) (by omega)) hA
    obtain ⟨m2, j1, j2, j3⟩ := m_m68 (n := i) e1 hA1 hg hp hv (by omega) (fun o ho => by
      rcases fr_rng (W := W) (N := W * H) (col := cx) (sf := sfF q W H S P s p) i o (by omega) with h | h <;> omega) a1
    refine ⟨m2, ?_, j2, fun b h1 h2 => by rw [j3 b h1 h2, a2 b h1 h2]⟩
    rw [lpX9_measures_57, m_cells e1.1.2.2.1, bd_some, if_neg (nI_ge hi (by omega)), j1, bd_some, lt_e, nI_1]) (fun fu m' hI2 => ⟨m', by
    rw [lpX9_measures_57, m_cells (mR_fr (hI2.2 92 (by omega) (by omega)) hm), bd_some, if_pos (by exact nI_le (Nat.le_refl _) (by omega))], hI2⟩) m ⟨ar, fun _ _ _ => rfl⟩
  exact key
theorem twn (e : env (ic_ld sw) m q W H S P) (hp : p < P) : 2 ≤ W ∧ W ≤ 6 ∧ colN W (1 - q (2 * p)) < W ∧ W - 1 - colN W (q (2 * p)) = colN W (1 - q (2 * p)) ∧ colN W (q (2 * p)) ≤ W - 1 := by
  obtain ⟨ho, hr, hm, hl, hpp⟩ := id e.1
  have hW : 2 ≤ W ∧ W ≤ 6 := by
    rcases ho with h | h
    · exact ⟨h.1, h.2.1⟩
    · omega
  have ht := (hpp p hp).2.2.1
  rw [e.2.1] at ht
  refine ⟨hW.1, hW.2, ?_⟩
  rcases ht with h | h
  · rw [h]
    unfold colN
    rw [if_neg (by decide), if_pos rfl]
    omega
  · rw [h]
    unfold colN
    rw [if_pos (by decide), if_neg (by decide)]
    omega
theorem m_meas (e : env (ic_ld sw) m q W H S P) (hA : rwA m 98 s) (hg : gI (sI s)) (hp : p < P) (hv : ∀ p, p < P → vP (W * H) (sP s p)) : ∃ m', fX9_measures m (nI p) = some m' ∧ arF m' (W * H) (frI W (W * H) (colN W (1 - q (2 * p))) (sfF q W H S P s p) (W * H)) ∧ ∀ b, b ≠ 99 → b ≠ 106 → m' b = m b := by
  obtain ⟨ho, hr, hm, hl, hpp⟩ := id e.1
  obtain ⟨w1, w2, w3, w4, w5⟩ := twn e hp
  obtain ⟨m1, j1, j2, j3⟩ := m_col0 (x1 := nI p) (x2 := nI (colN W (1 - q (2 * p)))) e rfl (by omega)
  have e1 : env (ic_ld sw) m1 q W H S P := env_fr (fun b hb => j3 b (by omega)) e
  obtain ⟨m2, k1, k2, k3⟩ := m_m57 (s := s) e1 (rwA_fr (j3 98 (by omega)) hA) hg hp hv j2
  refine ⟨m2, ?_, k2, fun b h1 h2 => by rw [k3 b h1 h2, j3 b h2]⟩
  unfold fX9_measures
  rw [show ∀ T : Int32 → Option ic_M, ic_ag m 92 7 (0 : Int32) T = ic_ag m 92 7 (nI 0) T from fun _ => rfl, m_ag92 (by omega), hm.1, m_col e hp, bd_some, lt_e, show nI W - (1 : Int32) = nI (W - 1) from pk_sub (a := W) (b := 1) (by omega), pk_sub w5, w4, j1, bd_some, k1, bd_some]
/-- those that can be the first step -/
def c0F (q : Nat → Int32) (W H S P : Nat) (s : iceS) (p c : Nat) : Bool := goS W (W * H) (colN W (q (2 * p))) (sP s p) (sI s) c && sfF q W H S P s p c
theorem m_over {F : Nat → Nat} {x2 : Int32} (e : env (ic_ld sw) m q W H S P) (hA : rwA m 98 s) (hg : gI (sI s)) (hp : p < P) (hv : ∀ p, p < P → vP (W * H) (sP s p)) (hF : ∀ o, o < W * H → F o ≤ 99) (ar : arF m (W * H) F) : ∃ m', lpX9_over_89 (nI p) x2 1000 (-1) 0 m = some (srV (bst (fun c => c0F q W H S P s p c && decide (F c < 99)) F (W * H)), m') ∧ ∀ b, b ≠ 99 → m' b = m b := by
  obtain ⟨ho, hr, hm, hl, hpp⟩ := id e.1
  have hN := rOK_N ho
  have hP := rOK_P ho
  generalize hcd : (fun c => c0F q W H S P s p c && decide (F c < 99)) = cand
  have hcand : ∀ i, cand i = (goS W (W * H) (colN W (q (2 * p))) (sP s p) (sI s) i && sfF q W H S P s p i && decide (F i < 99)) := fun i => by rw [← hcd]; rfl
  have key := for_R (lp := fun fu i (y : Int32 × ic_M) => lpX9_over_89 (nI p) x2 fu y.1 (nI i) y.2) (Q := fun y => y.1 = srV (bst cand F (W * H)) ∧ ∀ b, b ≠ 99 → y.2 b = m b) (W * H) (by omega) (fun i y => y.1 = srV (bst cand F i) ∧ ∀ b, b ≠ 99 → y.2 b = m b) (fun fu i y hi hI2 => by
    obtain ⟨a1, a2⟩ := hI2
    have e1 : env (ic_ld sw) y.2 q W H S P := env_fr (fun b hb => a2 b (by omega)) e
    have hA1 : rwA y.2 98 s := rwA_fr (a2 98 (by omega)) hA
    have hFi := hF i hi
    have ai : y.2 106 i = nI (F i) := by rw [a2 106 (by omega)]; exact ar i hi
    have stay : cand i = false → bst cand F (i + 1) = bst cand F i := fun h => by
      rw [bst_s, if_neg (fun h2 => by rw [h] at h2; cases h2.1)]
    rw [lpX9_over_89, m_cells e1.1.2.2.1, bd_some, if_neg (nI_ge hi (by omega)), m_canC e1 il_m.1 hA1 hg hp (hv p hp) hi, bd_some]
    cases hgo : goS W (W * H) (colN W (q (2 * p))) (sP s p) (sI s) i
    · refine ⟨y, ?_, ?_, a2⟩
      · rw [bI_f, if_pos rfl, bd_some, lt_e, nI_1]
      · rw [stay (by rw [hcand, hgo]; rfl)]; exact a1
    · rw [bI_t, if_neg one_ne0, ag_n (by omega) (by omega), ai]
      by_cases h9 : F i < 99
      · rw [if_neg (show ¬ (99 : Int32) ≤ nI (F i) from nI_ge (b := 99) h9 (by omega))]
        obtain ⟨m2, j1, j2⟩ := m_safe (c := i) e1 hA1 hg hp hv hi
        have f2 : ∀ b, b ≠ 99 → m2 b = m b := fun b hb => by rw [j2 b hb, a2 b hb]
        have bi : m2 106 i = nI (F i) := by rw [f2 106 (by omega)]; exact ar i hi
        rw [j1, bd_some]
        dsimp only
        cases hs : sfF q W H S P s p i
        · refine ⟨(y.1, m2), ?_, ?_, f2⟩
          · rw [bI_f, if_pos rfl, bd_some, lt_e, nI_1]
          · rw [stay (by rw [hcand, hs]; simp)]; exact a1
        · have ci : cand i = true := by rw [hcand, hgo, hs]; simp [h9]
          rw [bI_t, if_neg one_ne0]
          cases hb : bst cand F i with
          | none =>
            have ey : y.1 = -1 := by rw [a1, hb]; rfl
            refine ⟨(nI i, m2), ?_, ?_, f2⟩
            · rw [if_pos ey, bd_some, lt_e, nI_1]
            · rw [bst_s, hb, if_pos ⟨ci, rfl⟩]; rfl
          | some j =>
            obtain ⟨jlt, -, -⟩ := (bst_spec (cand := cand) (F := F) i).2 j hb
            have ey : y.1 = nI j := by rw [a1, hb]; rfl
            have bj : m2 106 j = nI (F j) := by rw [f2 106 (by omega)]; exact ar j (by omega)
            have hFj := hF j (by omega)
            rw [if_neg (by rw [ey]; exact m1_ne (by omega)), ag_n (by omega) (by omega), bi, ey, ag_n (by omega) (by omega), bj]
            by_cases hlt : F i < F j
            · refine ⟨(nI i, m2), ?_, ?_, f2⟩
              · rw [if_neg (nI_ge hlt (by omega)), bd_some, lt_e, nI_1]
              · rw [bst_s, hb, if_pos ⟨ci, decide_eq_true hlt⟩]; rfl
            · refine ⟨(nI j, m2), ?_, ?_, f2⟩
              · rw [if_pos (nI_le (by omega) (by omega)), bd_some, lt_e, nI_1]
              · rw [bst_s, hb, if_neg (fun h => hlt (of_decide_eq_true h.2))]; rfl
      · refine ⟨y, ?_, ?_, a2⟩
        · rw [if_pos (show (99 : Int32) ≤ nI (F i) from nI_le (a := 99) (by omega) (by omega)), bd_some, lt_e, nI_1]
        · rw [stay (by rw [hcand]; simp [h9])]; exact a1) (fun fu y hI2 => ⟨y, by
    rw [lpX9_over_89, m_cells (mR_fr (hI2.2 92 (by omega)) hm), bd_some, if_pos (by exact nI_le (Nat.le_refl _) (by omega))], hI2⟩) (-1, m) ⟨rfl, fun _ _ => rfl⟩
  obtain ⟨y, k1, k2, k3⟩ := key
  have k1 : lpX9_over_89 (nI p) x2 1000 (-1) 0 m = some y := k1
  exact ⟨y.2, by rw [k1, ← k2], k3⟩
/-- the class's answer, when k more steps are enough -/
def wyV (x4 : Int32) (c0 : Nat → Bool) (rc : Nat → Nat → Bool) (N k : Nat) : Int32 := if x4 = 0 then nI (k + 1) else srV (srch (fun c => c0 c && rc k c) 0 N)
def wyO (m : ic_M) (x4 : Int32) (c0 : Nat → Bool) (rc : Nat → Nat → Bool) (N : Nat) (o : Option Nat) : Unit ⊕ (Int32 × ic_M) := match o with
  | none => .inl ()
  | some k => .inr (wyV x4 c0 rc N k, m)
theorem way_e {R cx : Nat} {c0 sf : Nat → Bool} {x4 : Int32} (hr : cR m R W H S P) (ho : rOK W H S P) : ∀ (n fu i : Nat), i + n = W * H → n < fu → lpX7_wayOver_67 m R x4 (bs sf (W * H)) (bs c0 (W * H)) fu (bs (rcI W (W * H) cx sf i) (W * H)) (nI (i + 1)) = some (wyO m x4 c0 (rcI W (W * H) cx sf) (W * H) (srch (fun k => anyB (fun c => c0 c && rcI W (W * H) cx sf k c) (W * H)) i n)) := by
  have hN := rOK_N ho
  intro n
  induction n with
  | zero =>
    intro fu i hi hfu
    obtain ⟨f, rfl⟩ : ∃ f, fu = f + 1 := ⟨fu - 1, by omega⟩
    rw [lpX7_wayOver_67, hr.2.2.2.1, if_pos (nI_lt (by omega) (by omega))]
    rfl
  | succ n ih =>
    intro fu i hi hfu
    obtain ⟨f, rfl⟩ : ∃ f, fu = f + 1 := ⟨fu - 1, by omega⟩
    rw [lpX7_wayOver_67, hr.2.2.2.1, if_neg (nI_nlt (by omega) (by omega)), bs_and (by omega)]
    show _ = some (wyO m x4 c0 (rcI W (W * H) cx sf) (W * H) (if anyB (fun c => c0 c && rcI W (W * H) cx sf i c) (W * H) = true then some i else srch (fun k => anyB (fun c => c0 c && rcI W (W * H) cx sf k c) (W * H)) (i + 1) n))
    by_cases h0 : bs (fun c => c0 c && rcI W (W * H) cx sf i c) (W * H) = 0
    · have h1 := (bs_zero (by omega)).mp h0
      rw [if_pos h0, if_neg (by rw [anyB_f h1]; simp), c_nextAny hr ho, bd_some, lt_e, lt_e, bs_and (by omega), bs_or (by omega), nI_1]
      exact ih f (i + 1) (by omega) (by omega)
    · have h1 : anyB (fun c => c0 c && rcI W (W * H) cx sf i c) (W * H) = true := by
        cases hb : anyB (fun c => c0 c && rcI W (W * H) cx sf i c) (W * H)
        · exfalso
          apply h0
          apply (bs_zero (by omega)).mpr
          intro k hk
          cases hk2 : (c0 k && rcI W (W * H) cx sf i k)
          · rfl
          · rw [anyB_t.mpr ⟨k, hk, hk2⟩] at hb; cases hb
        · rfl
      rw [if_neg h0, if_pos h1]
      by_cases hx : x4 = 0
      · rw [if_pos hx]
        show _ = some (Sum.inr (wyV x4 c0 (rcI W (W * H) cx sf) (W * H) i, m))
        unfold wyV
        rw [if_pos hx]
      · rw [if_neg hx, c_leastIn m (by omega), bd_some]
        show _ = some (Sum.inr (wyV x4 c0 (rcI W (W * H) cx sf) (W * H) i, m))
        unfold wyV
        rw [if_neg hx]
end OVT
theorem pu_over {sw : Nat} {μ : ic_M} (hI : ic_I sw μ) (a1 a2 : Int32) : ∃ (v : Int32) (μ1 : ic_M) (μ2 : ic_M), fX8_over sw μ a1 a2 = some (v, μ1) ∧ fX9_over μ1 a1 a2 = some (v, μ2) ∧ ic_I sw μ2 := by
  obtain ⟨W, H, S, P, h⟩ := id hI
  obtain ⟨ho, hr, hm, hl, hpp⟩ := h.1
  have hN := rOK_N ho
  have hP := rOK_P ho
  have hld := ld_hi sw
  obtain ⟨s, s1, s2, s3⟩ := iN_to h.2.2.2.2.1
  have E := env_J h
  unfold fX8_over fX9_over
  rcases refu (x1 := a1) (x2 := a2) h s1 with ⟨v, v0, v1, v2⟩ | ⟨v1, hw, p, hp, rfl, hd⟩
  · refine ⟨v, μ, μ, by rw [v1, bd_some, if_neg v0]; rfl, ?_, hI⟩
    rw [m_isPerson hm ho, bd_some]
    rcases v2 with ⟨rfl, e⟩ | ⟨rfl, e, e2⟩ | ⟨rfl, e2, p, hp, rfl, hd⟩
    · rw [e, bI_f, if_pos rfl]
    · rw [e, bI_t, if_neg one_ne0, in_e, bd_some, e2, bI_f, if_pos rfl]
    · rw [(isC_t (by omega)).mpr ⟨p, hp, rfl⟩, bI_t, if_neg one_ne0, in_e, bd_some, e2, bI_t, if_neg one_ne0, show (18 : Int32) + nI p = nI (18 + p) from nI_add 18 p, ag_n (by omega) (by omega), s2.2.1 p (by omega), if_pos hd]
  · obtain ⟨t, -, ht, rfl⟩ := (wi_n (a := 0) (b := 1) (by omega) (by omega)).mp hw
    have ht2 : t = 0 ∨ t = 1 := by omega
    have et : (if nI t = (1 : Int32) then some (1 : Int32) else some 0) = some (bI (decide (t = 1))) := by
      rcases ht2 with rfl | rfl <;> rfl
    have ett : (if bI (decide (t = 1)) = 0 then some (0 : Int32) else some (-1)) = some (if t = 0 then (0 : Int32) else -1) := by
      rcases ht2 with rfl | rfl <;> rfl
    have etm : (if nI t = 0 then some (0 : Int32) else some (-1)) = some (if t = 0 then (0 : Int32) else -1) := by
      rcases ht2 with rfl | rfl <;> rfl
    have hv := s3.2.1
    obtain ⟨w1, w2, w3, w4, w5⟩ := twn E hp
    have hH : 1 ≤ H := by
      rcases ho with h | h <;> omega
    have tw : fX5_townOf μ (ic_ld sw) (nI p) = some (μ 94 (2 * p)) := by rw [c_town (by omega), (hpp p hp).1]
    have bk : fX5_bankOf μ (ic_ld sw) (1 - μ 94 (2 * p)) = some (bs (fun c => decide (c % W = colN W (1 - μ 94 (2 * p)))) (W * H)) := c_bank hr ho
    generalize hcx : colN W (1 - μ 94 (2 * p)) = cx at w3 w4 bk
    have plc : fX1_placeOf μ 4 (nI p) = some (sP s p) := by rw [c_place (by omega), s1.2.1 p (by omega)]
    -- the reference's distances, from a memory like this one
    have meas : ∀ m1 : ic_M, (∀ b, ¬ (58 ≤ b ∧ b ≤ 60) → m1 b = μ b) → ∃ m', fX9_measures m1 (nI p) = some m' ∧ arF m' (W * H) (frI W (W * H) cx (sfF (μ 94) W H S P s p) (W * H)) ∧ ∀ b, b ≠ 99 → b ≠ 106 → m' b = m1 b := fun m1 f1 => by
      have e1 : env (ic_ld sw) m1 (μ 94) W H S P := env_fr (fun b hb => f1 b (by omega)) E
      have := m_meas (s := s) e1 (rwA_fr (f1 98 (by omega)) s2) s3.1 hp hv
      rwa [hcx] at this
    generalize hF : frI W (W * H) cx (sfF (μ 94) W H S P s p) (W * H) = F at meas
    have F0 : ∀ c, F c = 0 ↔ c % W = cx := fun c => by
      have h1 := fr_stab (W := W) (N := W * H) (col := cx) (sf := sfF (μ 94) W H S P s p) (k := 0) (c := c) (n := W * H) (by omega)
      rw [hF] at h1
      have h2 : frI W (W * H) cx (sfF (μ 94) W H S P s p) 0 c = fr0 W cx c := rfl
      rw [h2] at h1
      unfold fr0 at h1
      by_cases hcc : c % W = cx
      · rw [if_pos hcc] at h1
        constructor
        · intro _; exact hcc
        · intro _; have := h1.mpr (Nat.le_refl _); omega
      · rw [if_neg hcc] at h1
        constructor
        · intro h3; exfalso; have := h1.mp (by omega); omega
        · intro h3; exact absurd h3 hcc
    have F99 : ∀ o, o < W * H → F o ≤ 99 := fun o _ => by
      rw [← hF]
      rcases fr_rng (W := W) (N := W * H) (col := cx) (sf := sfF (μ 94) W H S P s p) (W * H) o (by omega) with h | h <;> omega
    have Flt : ∀ c, c < W * H → F c < 99 → F c < W * H := fun c hc h9 => by
      rw [← hF] at h9 ⊢
      exact fr_lt hN hc h9
    have rcF : ∀ k, k < W * H → ∀ c, c < W * H → (c0F (μ 94) W H S P s p c && rcI W (W * H) cx (sfF (μ 94) W H S P s p) k c) = (c0F (μ 94) W H S P s p c && decide (F c ≤ k)) := fun k hk c hc => by
      have h1 := fr_stab (W := W) (N := W * H) (col := cx) (sf := sfF (μ 94) W H S P s p) (k := k) (c := c) (n := W * H) (by omega)
      rw [hF] at h1
      rw [rc_e k (by omega) c hc, show decide (frI W (W * H) cx (sfF (μ 94) W H S P s p) k c ≤ k) = decide (F c ≤ k) from decide_eq_decide.mpr h1.symm]
      unfold c0F
      cases goS W (W * H) (colN W (μ 94 (2 * p))) (sP s p) (sI s) c <;> cases sfF (μ 94) W H S P s p c <;> simp
    have start9 : ∀ m1 : ic_M, (∀ b, ¬ (58 ≤ b ∧ b ≤ 60) → m1 b = μ b) → fX9_isPerson m1 (nI p) = some 1 ∧ m1 98 (18 + p) = sP s p := fun m1 f1 => ⟨by
      rw [m_isPerson (mR_fr (f1 92 (by omega)) hm) ho, (isC_t (by omega)).mpr ⟨p, hp, rfl⟩]; rfl, by rw [f1 98 (by omega), s2.2.1 p (by omega)]⟩
    -- the way is sought
    have seek : ∃ (v : Int32) (m1 m3 : ic_M), Option.bind (fX7_safeFor μ (ic_ld sw) 4 (nI p)) (fun q25 => Option.bind (fX1_ways q25.2 4 (ic_ld sw) (nI p)) (fun v26 => ic_lt ((v26 &&& q25.1)) (fun x27 => ic_lt ((bs (fun c => decide (c % W = cx)) (W * H) &&& q25.1)) (fun x28 => Option.bind (lpX7_wayOver_67 q25.2 (ic_ld sw) (bI (decide (t = 1))) q25.1 x27 1000 x28 (1 : Int32)) (fun q33 => Sum.elim (fun t34 => some ((-1 : Int32), q25.2)) some q33))))) = some (v, m1) ∧ (∀ b, ¬ (58 ≤ b ∧ b ≤ 60) → m1 b = μ b) ∧ (∀ b, b ≠ 99 → b ≠ 106 → m3 b = m1 b) ∧ ∃ m2 : ic_M, fX9_measures m1 (nI p) = some m2 ∧ arF m2 (W * H) F ∧ (∀ b, b ≠ 99 → b ≠ 106 → m2 b = m1 b) ∧ Option.bind (lpX9_over_89 (nI p) (nI t) 1000 (-1 : Int32) (0 : Int32) m2) (fun q34 => Option.bind (if q34.1 = (-1 : Int32) then some q34.1 else (if nI t = (1 : Int32) then some q34.1 else ic_ag q34.2 106 18 q34.1 (fun v36 => some (v36 + (1 : Int32))))) (fun q35 => some (q35, q34.2))) = some (v, m3) := by
      obtain ⟨m1, k1, f1⟩ := c_safe E s1 hp hv
      have e1 : env (ic_ld sw) m1 (μ 94) W H S P := env_fr (fun b hb => f1 b (by omega)) E
      have hA1 : icA m1 4 s := icA_fr (f1 4 (by omega)) (f1 5 (by omega)) (f1 6 (by omega)) s1
      obtain ⟨m2, j1, j2, j3⟩ := meas m1 f1
      have e2 : env (ic_ld sw) m2 (μ 94) W H S P := env_fr (fun b hb => j3 b (by omega) (by omega)) e1
      have hA2 : rwA m2 98 s := rwA_fr (by rw [j3 98 (by omega) (by omega), f1 98 (by omega)]) s2
      obtain ⟨m3, l1, l2⟩ := m_over (F := F) (x2 := nI t) e2 hA2 s3.1 hp hv F99 j2
      have way := way_e (m := m1) (R := ic_ld sw) (cx := cx) (c0 := c0F (μ 94) W H S P s p) (sf := sfF (μ 94) W H S P s p) (x4 := bI (decide (t = 1))) (W := W) (H := H) (S := S) (P := P) e1.1.2.1 ho (W * H) 1000 0 (by omega) (by omega)
      rw [srch_congr (g := fun k => anyB (fun c => c0F (μ 94) W H S P s p c && decide (F c ≤ k)) (W * H)) (fun k _ hk => anyB_congr (fun c hc => rcF k (by omega) c hc))] at way
      have hstart : bs (goS W (W * H) (colN W (μ 94 (2 * p))) (sP s p) (sI s)) (W * H) &&& bs (sfF (μ 94) W H S P s p) (W * H) = bs (c0F (μ 94) W H S P s p) (W * H) := bs_and (by omega)
      have hgoal : bs (fun c => decide (c % W = cx)) (W * H) &&& bs (sfF (μ 94) W H S P s p) (W * H) = bs (rcI W (W * H) cx (sfF (μ 94) W H S P s p) 0) (W * H) := bs_and (by omega)
      have way : lpX7_wayOver_67 m1 (ic_ld sw) (bI (decide (t = 1))) (bs (sfF (μ 94) W H S P s p) (W * H)) (bs (c0F (μ 94) W H S P s p) (W * H)) 1000 (bs (rcI W (W * H) cx (sfF (μ 94) W H S P s p) 0) (W * H)) 1 = _ := way
      have A1 : ∀ v, Sum.elim (fun (_ : Unit) => some ((-1 : Int32), m1)) some (wyO m1 (bI (decide (t = 1))) (c0F (μ 94) W H S P s p) (rcI W (W * H) cx (sfF (μ 94) W H S P s p)) (W * H) (srch (fun k => anyB (fun c => c0F (μ 94) W H S P s p c && decide (F c ≤ k)) (W * H)) 0 (W * H))) = some (v, m1) → Option.bind (fX7_safeFor μ (ic_ld sw) 4 (nI p)) (fun q25 => Option.bind (fX1_ways q25.2 4 (ic_ld sw) (nI p)) (fun v26 => ic_lt ((v26 &&& q25.1)) (fun x27 => ic_lt ((bs (fun c => decide (c % W = cx)) (W * H) &&& q25.1)) (fun x28 => Option.bind (lpX7_wayOver_67 q25.2 (ic_ld sw) (bI (decide (t = 1))) q25.1 x27 1000 x28 (1 : Int32)) (fun q33 => Sum.elim (fun t34 => some ((-1 : Int32), q25.2)) some q33))))) = some (v, m1) := fun v hvv => by
        rw [k1, bd_some]
        dsimp only
        rw [c_ways e1 hA1 hp (hv p hp), bd_some, lt_e, lt_e, hstart, hgoal, way, bd_some]
        exact hvv
      cases hb : bst (fun c => c0F (μ 94) W H S P s p c && decide (F c < 99)) F (W * H) with
      | none =>
        refine ⟨-1, m1, m3, A1 _ ?_, f1, fun b h1 h2 => by rw [l2 b h1, j3 b h1 h2], m2, j1, j2, j3, ?_⟩
        · rw [sel_none hN hb]; rfl
        · rw [l1, hb, bd_some]; rfl
      | some j =>
        obtain ⟨g1, g2, g3, g4⟩ := sel_some Flt hb
        have hFj := F99 j g1
        refine ⟨if t = 1 then nI j else nI (F j + 1), m1, m3, A1 _ ?_, f1, fun b h1 h2 => by rw [l2 b h1, j3 b h1 h2], m2, j1, j2, j3, ?_⟩
        · rw [g3]
          show some (wyV (bI (decide (t = 1))) (c0F (μ 94) W H S P s p) (rcI W (W * H) cx (sfF (μ 94) W H S P s p)) (W * H) (F j), m1) = _
          unfold wyV
          rw [srch_congr (g := fun c => c0F (μ 94) W H S P s p c && decide (F c ≤ F j)) (fun c _ hc => rcF (F j) g2 c (by omega)), g4]
          rcases ht2 with rfl | rfl <;> rfl
        · have l1 : lpX9_over_89 (nI p) (nI t) 1000 (-1) 0 m2 = some (nI j, m3) := by rw [l1, hb]; rfl
          rw [l1, bd_some]
          dsimp only
          rw [if_neg (m1_ne (show j < 18 by omega))]
          rcases ht2 with rfl | rfl
          · rw [if_neg (by decide), ag_n (by omega) (by omega), l2 106 (by omega), j2 j g1, nI_1, bd_some]; rfl
          · rw [if_pos (show nI 1 = (1 : Int32) from rfl), bd_some]; rfl
    unfold fX7_wayOver
    rw [v1, bd_some, if_pos rfl, et, bd_some, tw, bd_some, bk, bd_some, plc, bd_some]
    rcases hv p hp with hpl | hpl | ⟨a, ha, hpl⟩
    · exact absurd hpl hd
    · obtain ⟨v, m1, m3, c1, f1, f3, m2, d1, d2, d3, d4⟩ := seek
      obtain ⟨i1, i2⟩ := start9 m1 f1
      have i3 : m2 98 (18 + p) = sP s p := by rw [d3 98 (by omega) (by omega), i2]
      refine ⟨v, m1, m3, ?_, ?_, J_tr hI (fun b h1 h2 h3 h4 h5 => by rw [f3 b h4 h5, f1 b (by omega)])⟩
      · rw [hpl, isIn_neg _ m1_lt, bd_some, if_pos rfl, c1]; rfl
      · rw [i1, bd_some, if_neg one_ne0, in_e, bd_some, hw, bI_t, if_neg one_ne0, show (18 : Int32) + nI p = nI (18 + p) from nI_add 18 p, ag_n (by omega) (by omega), i2, if_neg hd, d1, bd_some, ag_n (by omega) (by omega), i3, hpl, if_pos m1_lt, d4]
    · by_cases hgo : a % W = cx
      · obtain ⟨m2, d1, d2, d3⟩ := meas μ (fun _ _ => rfl)
        obtain ⟨i1, i2⟩ := start9 μ (fun _ _ => rfl)
        have i3 : m2 98 (18 + p) = sP s p := by rw [d3 98 (by omega) (by omega), i2]
        refine ⟨if t = 0 then 0 else -1, μ, m2, ?_, ?_, J_tr hI (fun b h1 h2 h3 h4 h5 => by rw [d3 b h4 h5])⟩
        · rw [hpl, isIn_e _ (by omega), bd_some, bs_lo (by omega) ha, decide_eq_true hgo, bI_t, if_neg one_ne0, ett, bd_some]; rfl
        · rw [i1, bd_some, if_neg one_ne0, in_e, bd_some, hw, bI_t, if_neg one_ne0, show (18 : Int32) + nI p = nI (18 + p) from nI_add 18 p, ag_n (by omega) (by omega), i2, if_neg hd, d1, bd_some, ag_n (by omega) (by omega), i3, hpl, if_neg (nI_pos (by omega)), ag_n (by omega) (by omega), i3, hpl, ag_n (by omega) (by omega), d2 a ha, (F0 a).mpr hgo, if_pos nI_0, etm, bd_some]
      · obtain ⟨v, m1, m3, c1, f1, f3, m2, d1, d2, d3, d4⟩ := seek
        obtain ⟨i1, i2⟩ := start9 m1 f1
        have i3 : m2 98 (18 + p) = sP s p := by rw [d3 98 (by omega) (by omega), i2]
        have hFa := F99 a ha
        refine ⟨v, m1, m3, ?_, ?_, J_tr hI (fun b h1 h2 h3 h4 h5 => by rw [f3 b h4 h5, f1 b (by omega)])⟩
        · rw [hpl, isIn_e _ (by omega), bd_some, bs_lo (by omega) ha, decide_eq_false hgo, bI_f, if_pos rfl, c1]; rfl
        · rw [i1, bd_some, if_neg one_ne0, in_e, bd_some, hw, bI_t, if_neg one_ne0, show (18 : Int32) + nI p = nI (18 + p) from nI_add 18 p, ag_n (by omega) (by omega), i2, if_neg hd, d1, bd_some, ag_n (by omega) (by omega), i3, hpl, if_neg (nI_pos (by omega)), ag_n (by omega) (by omega), i3, hpl, ag_n (by omega) (by omega), d2 a ha, if_neg (fun h9 => hgo ((F0 a).mp (by
              rcases Nat.eq_zero_or_pos (F a) with h8 | h8
              · exact h8
              · exact absurd h9 (nI_ne0 h8 (by omega))))), d4]
