/-! ===== banks, ways, steps ===== -/
def colN (W : Nat) (t : Int32) : Nat := if t = 0 then 0 else W - 1
theorem colN_lt {W : Nat} {t : Int32} (h : 0 < W) : colN W t < W := by
  unfold colN
  split <;> omega
theorem bank_step : ∀ W, W < 7 → ∀ i, i < 3 → ∀ col, col < 6 → ∀ k, k < 32 → col < W → ((decide (k < i * W) && decide (k % W = col)) || decide (k = i * W + col)) = (decide (k < (i + 1) * W) && decide (k % W = col)) := by decide +kernel
theorem c_bank {μ : ic_M} {R W H S P : Nat} {t : Int32} (hr : cR μ R W H S P) (ho : rOK W H S P) : fX5_bankOf μ R t = some (bs (fun c => decide (c % W = colN W t)) (W * H)) := by
  have hN := rOK_N ho
  unfold fX5_bankOf
  have e1 : (if t = 0 then some (0 : Int32) else some (μ R 8 - 1)) = some (nI (colN W t)) ∨ H = 0 := by
    rcases ho with ⟨h1, h2, h3, h4, -⟩ | ⟨h1, h2, h3, h4⟩
    · left
      unfold colN
      by_cases h : t = 0
      · rw [if_pos h, if_pos h]; rfl
      · rw [if_neg h, if_neg h, hr.1]
        exact congrArg some (pk_sub (b := 1) (by omega))
    · right; exact h2
  rcases e1 with e1 | e1
  · rw [e1, bd_some]
    have hW : W < 7 ∧ H < 4 := by rcases ho with h | h <;> omega
    have key := for_M (lp := fun fu i s => lpX5_bankOf_20 μ R (nI (colN W t)) fu s (nI i)) (M := fun i => bs (fun c => decide (c % W = colN W t)) (i * W)) (fin := some (bs (fun c => decide (c % W = colN W t)) (W * H))) H (by omega) ?_ ?_
    · simp only [Nat.zero_mul, bs_0] at key
      have key : lpX5_bankOf_20 μ R (nI (colN W t)) 1000 0 0 = _ := key
      rw [key]; rfl
    · intro fu i hi
      have hle := rw_le (W := W) hi
      have hW0 : 0 < W := by
        rcases ho with h | h
        · omega
        · omega
      have hc := colN_lt (t := t) hW0
      rw [lpX5_bankOf_20, hr.2.1, if_neg (nI_ge hi (by omega)), hr.1, pk_mul, nI_add, lt_e, lt_e, nI_1]
      congr 1
      apply b_ext
      intro k hk
      rw [b_or, bs_bt (by omega) hk, bs_bt (by rw [Nat.succ_mul]; omega) hk, b_one (by omega) hk]
      exact bank_step W hW.1 i (by omega) _ (by omega) k hk hc
    · intro fu
      rw [lpX5_bankOf_20, hr.2.1, if_pos (by exact nI_le (Nat.le_refl _) (by omega)), Nat.mul_comm]
  · subst e1
    have e0 : ∀ x, lpX5_bankOf_20 μ R x 1000 0 0 = some 0 := fun x => by
      rw [show (1000 : Nat) = 999 + 1 from rfl, lpX5_bankOf_20, hr.2.1, if_pos (by decide)]
    simp only [e0]
    split <;> simp [bd_some, bs_0]
/-- can p go to c, can p go ashore -/
def goS (W N col : Nat) (pl : Int32) (inc : Nat → Int32) (c : Nat) : Bool := decide (¬ inc c = 0) && ((decide (pl = -1) && decide (c % W = col)) || adjX W N pl c)
def offS (W col : Nat) (pl : Int32) : Bool := decide (¬ pl < 0) && decide (pl.toNatClampNeg % W = col)
section WAY
variable {R : Nat} {μ : ic_M} {q : Nat → Int32} {W H S P a r p : Nat} {s : iceS}
theorem bank_holes {f : Nat → Bool} {inc : Nat → Int32} {N : Nat} (hN : N ≤ 31) : bs f N &&& (bs (fun c => decide (inc c = 0)) N ^^^ (-1)) = bs (fun c => f c && decide (¬ inc c = 0)) N := by
  rw [bs_not hN (fun k h1 h2 => bs_hi hN h1 h2)]
  exact bs_congr (fun c hc => by rw [bs_lo hN hc]; simp)
theorem m1_lt : (-1 : Int32) < 0 := by decide
theorem m2_lt : (-2 : Int32) < 0 := by decide
theorem c_ways (e : env R μ q W H S P) (hA : icA μ a s) (hp : p < P) (hv : vP (W * H) (sP s p)) : fX1_ways μ a R (nI p) = some (bs (goS W (W * H) (colN W (q (2 * p))) (sP s p) (sI s)) (W * H)) := by
  obtain ⟨ho, hr, hm, hl, hpp⟩ := e.1
  have hN := rOK_N ho
  have hP := rOK_P ho
  have hinc : bs (fun c => decide (μ (a + 1) c = 0)) (W * H) = bs (fun c => decide (sI s c = 0)) (W * H) := bs_congr (fun c hc => by rw [hA.1 c (by omega)])
  unfold fX1_ways
  rw [c_place (by omega), bd_some, hA.2.1 p (by omega), c_holes hr ho, c_town (by omega), bd_some, ((env_w e).2.2.2.2 p hp).1, c_bank hr ho, hinc]
  rcases hv with h | h | ⟨b, hb, h⟩
  · rw [h, if_pos rfl]
    congr 1
    symm
    rw [bs_zero (by omega)]
    intro k hk
    simp [goS, adjX_neg m2_lt]
  · rw [h, if_neg (by decide), if_pos rfl, bd_some, bd_some, bd_some, bank_holes (by omega)]
    congr 1
    exact bs_congr (fun c hc => by simp [goS, adjX_neg m1_lt, Bool.and_comm])
  · rw [h, if_neg (fun e => m2_ne (by omega) e.symm), if_neg (m1_ne (by omega)), c_next hr (rOK_y ho hb) hb, bd_some, bd_some, bd_some, nbs, bank_holes (by omega)]
    congr 1
    exact bs_congr (fun c hc => by simp [goS, adjX_n hb hN, m1_ne (show b < 18 by omega), Bool.and_comm, adj_comm W c b])
theorem c_canC {c : Nat} (e : env R μ q W H S P) (hA : icA μ a s) (hp : p < P) (hv : vP (W * H) (sP s p)) (hc : c < W * H) : fX1_canGo μ a R (nI p) (nI c) = some (bI (goS W (W * H) (colN W (q (2 * p))) (sP s p) (sI s) c)) := by
  have hN := rOK_N e.1.1
  unfold fX1_canGo
  rw [if_neg (m1_ne (by omega)), c_ways e hA hp hv, bd_some, isIn_e μ (by omega), bd_some, rz_b, bs_lo (by omega) hc]
theorem c_canOff (e : env R μ q W H S P) (hA : icA μ a s) (hp : p < P) (hv : vP (W * H) (sP s p)) : fX1_canGo μ a R (nI p) (-1) = some (bI (offS W (colN W (q (2 * p))) (sP s p))) := by
  obtain ⟨ho, hr, hm, hl, hpp⟩ := e.1
  have hN := rOK_N e.1.1
  have hP := rOK_P ho
  unfold fX1_canGo
  rw [if_pos rfl, c_town (by omega), bd_some, ((env_w e).2.2.2.2 p hp).1, c_bank hr ho, bd_some, c_place (by omega), bd_some, hA.2.1 p (by omega), c_isIn, bd_some, rz_b]
  congr 2
  rcases hv with h | h | ⟨b, hb, h⟩
  · rw [h, inS_neg m2_lt]; simp [offS, m2_lt]
  · rw [h, inS_neg m1_lt]; simp [offS, m1_lt]
  · rw [h, inS_n (by omega), bs_lo (by omega) hb]
    simp [offS, nI_pos (show b < 2 ^ 31 by omega), nI_clamp (show b < 2 ^ 31 by omega)]
theorem m_col (e : env R μ q W H S P) (hp : p < P) : fX9_columnOf μ (nI p) = some (nI (colN W (q (2 * p)))) := by
  obtain ⟨ho, hr, hm, hl, hpp⟩ := e.1
  have hP := rOK_P ho
  have hW : 1 ≤ W := by rcases ho with h | h <;> omega
  unfold fX9_columnOf
  rw [show (2 : Int32) * nI p = nI (2 * p) from pk_mul 2 p, ag_n (by omega) (by omega), e.2.1, show ic_ag μ 92 7 (0 : Int32) = ic_ag μ 92 7 (nI 0) from rfl, m_ag92 (by omega), hm.1, show nI W - 1 = nI (W - 1) from pk_sub (b := 1) hW]
  unfold colN
  split <;> rfl
theorem m_canC {c : Nat} (e : env R μ q W H S P) (hr9 : ic_il 106 r = 28) (hA : rwA μ r s) (hg : gI (sI s)) (hp : p < P) (hv : vP (W * H) (sP s p)) (hc : c < W * H) : fX9_canGo μ r (nI p) (nI c) = some (bI (goS W (W * H) (colN W (q (2 * p))) (sP s p) (sI s) c)) := by
  obtain ⟨ho, hr, hm, hl, hpp⟩ := e.1
  have hN := rOK_N e.1.1
  have hP := rOK_P ho
  have hy := rOK_y ho hc
  have hyW := hy.1
  have hW6 := hy.2.1
  have hcl := colN_lt (W := W) (t := q (2 * p)) (by omega)
  unfold fX9_canGo
  rw [hr9, show (18 : Int32) + nI p = nI (18 + p) from nI_add 18 p, ag_n (by omega) (by omega), hA.2.1 p (by omega), if_neg (m1_ne (by omega)), ag_n (by omega) (by omega), hA.1 c (by omega), show ic_ag μ 92 7 (0 : Int32) = ic_ag μ 92 7 (nI 0) from rfl, m_ag92 (by omega), hm.1, if_neg (nI_ne0 (by omega) (by omega)), m_col e hp, bd_some, pk_rem (by omega) (by omega) (by omega)]
  have hmod := Nat.mod_lt c (show W > 0 by omega)
  simp only [gI_le hg (show c < 18 by omega), nI_eq (show c % W < 2 ^ 31 by omega) (show colN W (q (2 * p)) < 2 ^ 31 by omega)]
  rcases hv with h | h | ⟨b, hb, h⟩
  · rw [h, if_pos rfl, rz_0]; simp [goS, adjX_neg m2_lt, bI]
  · rw [h, if_neg (by decide)]
    by_cases h0 : sI s c = 0
    · simp [goS, h0, bI, bd_some, rz_0]
    · by_cases h1 : c % W = colN W (q (2 * p))
      · simp [goS, h0, h1, bI, bd_some, rz_1]
      · simp [goS, h0, h1, bI, bd_some, rz_0, adjX_neg m1_lt]
  · rw [h, if_neg (fun e => m2_ne (by omega) e.symm), if_neg (m1_ne (by omega)), m_next hm hy (by omega) (by omega), bd_some]
    simp only [bI_0]
    by_cases h0 : sI s c = 0
    · simp [goS, h0, bI, bd_some, rz_0]
    · cases ha : adj W b c
      · simp [goS, h0, bI, bd_some, rz_0, adjX_n hb hN, m1_ne (show b < 18 by omega), ha]
      · simp [goS, h0, bI, bd_some, rz_1, adjX_n hb hN, m1_ne (show b < 18 by omega), ha]
theorem m_canOff (e : env R μ q W H S P) (hr9 : ic_il 106 r = 28) (hA : rwA μ r s) (hp : p < P) (hv : vP (W * H) (sP s p)) : fX9_canGo μ r (nI p) (-1) = some (bI (offS W (colN W (q (2 * p))) (sP s p))) := by
  obtain ⟨ho, hr, hm, hl, hpp⟩ := e.1
  have hN := rOK_N e.1.1
  have hP := rOK_P ho
  have hW : 2 ≤ W ∧ W ≤ 6 := by rcases ho with h | h <;> omega
  have hcl := colN_lt (W := W) (t := q (2 * p)) (by omega)
  unfold fX9_canGo
  rw [hr9, show (18 : Int32) + nI p = nI (18 + p) from nI_add 18 p, ag_n (by omega) (by omega), hA.2.1 p (by omega), if_pos rfl, show ic_ag μ 92 7 (0 : Int32) = ic_ag μ 92 7 (nI 0) from rfl, m_ag92 (by omega), hm.1, if_neg (nI_ne0 (by omega) (by omega)), m_col e hp, bd_some]
  rcases hv with h | h | ⟨b, hb, h⟩
  · rw [h, if_pos rfl, rz_0]; simp [offS, m2_lt, bI]
  · rw [h, if_neg (by decide), if_pos m1_lt, bd_some, rz_0]; simp [offS, m1_lt, bI]
  · have hmod := Nat.mod_lt b (show W > 0 by omega)
    rw [h, if_neg (fun e => m2_ne (by omega) e.symm), if_neg (nI_pos (by omega)), pk_rem (by omega) (by omega) (by omega)]
    simp only [nI_eq (show b % W < 2 ^ 31 by omega) (show colN W (q (2 * p)) < 2 ^ 31 by omega)]
    by_cases h1 : b % W = colN W (q (2 * p))
    · simp [offS, nI_pos (show b < 2 ^ 31 by omega), nI_clamp (show b < 2 ^ 31 by omega), h1, bI, bd_some, rz_1]
    · simp [offS, nI_pos (show b < 2 ^ 31 by omega), nI_clamp (show b < 2 ^ 31 by omega), h1, bI, bd_some, rz_0]
/-! a step -/
def putS (s : iceS) (p : Nat) (x : Int32) : iceS := (sI s, fun p' => if p' = p then x else sP s p', sSn s, sNi s, sOw s, sBr s)
def goR (q : Nat → Int32) (W H S P : Nat) (s : iceS) (p : Nat) (x : Int32) : iceS := clmS (q (2 * p)) (nbS q W H S P (putS s p x)) (brkS q W H S P (putS s p x))
theorem put_v {x : Int32} (hx : vP (W * H) x) (hv : ∀ p, p < P → vP (W * H) (sP s p)) : ∀ p', p' < P → vP (W * H) (sP (putS s p x) p') := by
  intro p' hp'
  show vP (W * H) (if p' = p then x else sP s p')
  split
  · exact hx
  · exact hv p' hp'
theorem c_go {x : Int32} (e : env R μ q W H S P) (hA : icA μ a s) (har : a + 2 < R) (hp : p < P) (hx : vP (W * H) x) (hv : ∀ p, p < P → vP (W * H) (sP s p)) : ∃ μ', fX1_go μ a R (nI p) x = some (nI (nbS q W H S P (putS s p x)), μ') ∧ icA μ' a (goR q W H S P s p x) ∧ ∀ b, b ≠ a → b ≠ a + 1 → b ≠ a + 2 → μ' b = μ b := by
  have hP := rOK_P e.1.1
  have hN := rOK_N e.1.1
  have hRl := e.2.2.1
  have hA1 : icA (ic_up μ (a + 2) p x) a (putS s p x) := by
    refine ⟨fun c hc => ?_, fun p' hp' => ?_, ?_, ?_, ?_, ?_⟩
    · rw [ic_up_ne (by omega)]; exact hA.1 c hc
    · rw [ic_up_eq]
      show _ = if p' = p then x else sP s p'
      by_cases h : p' = p
      · rw [if_pos h, h, pk_us]
      · rw [if_neg h, pk_un h]; exact hA.2.1 p' hp'
    · rw [ic_up_ne (by omega)]; exact hA.2.2.1
    · rw [ic_up_ne (by omega)]; exact hA.2.2.2.1
    · rw [ic_up_ne (by omega)]; exact hA.2.2.2.2.1
    · rw [ic_up_ne (by omega)]; exact hA.2.2.2.2.2
  have hle : nbS q W H S P (putS s p x) ≤ W * H := cnt_le _ _
  have hR2 := e.2.2.2
  have ha2 : (a + 2 < 78 ∨ a + 2 ≥ 78) := by omega
  have e1 : env R (ic_up μ (a + 2) p x) q W H S P := by
    obtain ⟨e1, e2, e3, e4⟩ := e
    exact ⟨iR_fr (fun b hb => ic_up_ne (by omega)) e1, by rw [ic_up_ne (by omega)]; exact e2, e3, e4⟩
  obtain ⟨m1, k1, k2, k3⟩ := c_brk e1 hA1 har (put_v hx hv)
  have ht : fX5_townOf m1 R (nI p) = some (q (2 * p)) := by
    rw [c_town (by omega), k3 _ (by omega) (by omega) (by omega), ic_up_ne (by omega), ((env_w e).2.2.2.2 p hp).1]
  obtain ⟨m2, c1, c2, c3⟩ := c_claim (t := q (2 * p)) (n := nbS q W H S P (putS s p x)) (by omega) k2
  refine ⟨m2, ?_, c2, fun b h1 h2 h3 => ?_⟩
  · unfold fX1_go
    rw [c_putP (by omega), bd_some, k1, bd_some]
    dsimp only
    rw [ht, bd_some, c1, bd_some]
  · rw [c3 b h1, k3 b h1 h2 h3, ic_up_ne h3]
theorem m_steps {x : Int32} (e : env R μ q W H S P) (h9 : r = 98 ∨ r = 99) (hA : rwA μ r s) (hg : gI (sI s)) (hp : p < P) (hx : vP (W * H) x) (hv : ∀ p, p < P → vP (W * H) (sP s p)) : ∃ μ', fX9_steps μ r (nI p) x = some (nI (nbS q W H S P (putS s p x)), μ') ∧ rwA μ' r (goR q W H S P s p x) ∧ ∀ b, b ≠ r → μ' b = μ b := by
  have hP := rOK_P e.1.1
  have hil : ic_il 106 r = 28 := by rcases h9 with rfl | rfl <;> decide +kernel
  have hA1 : rwA (ic_up μ r (18 + p) x) r (putS s p x) := by
    refine ⟨fun c hc => ?_, fun p' hp' => ?_, ?_, ?_, ?_, ?_⟩
    · rw [ic_up_eq, pk_un (by omega)]; exact hA.1 c hc
    · rw [ic_up_eq]
      show _ = if p' = p then x else sP s p'
      by_cases h : p' = p
      · rw [if_pos h, h, pk_us]
      · rw [if_neg h, pk_un (by omega)]; exact hA.2.1 p' hp'
    · rw [ic_up_eq, pk_un (by omega)]; exact hA.2.2.1
    · rw [ic_up_eq, pk_un (by omega)]; exact hA.2.2.2.1
    · rw [ic_up_eq, pk_un (by omega)]; exact hA.2.2.2.2.1
    · rw [ic_up_eq, pk_un (by omega)]; exact hA.2.2.2.2.2
  obtain ⟨m1, k1, k2, k3⟩ := m_brk (t := q (2 * p)) (env_fr (fun b hb => ic_up_ne (by omega)) e) h9 hA1 hg (put_v hx hv)
  refine ⟨m1, ?_, k2, fun b hb => by rw [k3 b hb, ic_up_ne hb]⟩
  unfold fX9_steps
  rw [hil, show (18 : Int32) + nI p = nI (18 + p) from nI_add 18 p, as_n (by omega) (by omega), show (2 : Int32) * nI p = nI (2 * p) from pk_mul 2 p, ag_n (by omega) (by omega), ic_up_ne (by omega), e.2.1, k1]
  rfl
theorem gS_brk (hP : P ≤ 6) (hN : W * H ≤ 18) (g : gS s (W * H) P) : gS (brkS q W H S P s) (W * H) P := by
  refine ⟨fun c hc => ?_, fun p hp => ?_, fun p hp c hc e => ?_, g.2.2.2.1, fun h0 p h1 h2 => ?_⟩
  · show ∃ n, n ≤ 60 ∧ (if c < W * H ∧ ovS q W H S P s c = true then 0 else sI s c) = nI n
    split
    · exact ⟨0, by omega, rfl⟩
    · exact g.1 c hc
  · show vP (W * H) (if p < P ∧ inS (bs (ovS q W H S P s) (W * H)) (sP s p) = true then -2 else sP s p)
    split
    · exact Or.inl rfl
    · exact g.2.1 p hp
  · have e : (if p < P ∧ inS (bs (ovS q W H S P s) (W * H)) (sP s p) = true then -2 else sP s p) = nI c := e
    show ¬ (if c < W * H ∧ ovS q W H S P s c = true then 0 else sI s c) = 0
    by_cases h : p < P ∧ inS (bs (ovS q W H S P s) (W * H)) (sP s p) = true
    · rw [if_pos h] at e
      exact absurd e (m2_ne (by omega))
    · rw [if_neg h] at e
      have h2 : ¬ ovS q W H S P s c = true := fun h3 => h ⟨hp, by rw [e, inS_n (by omega), bs_lo (by omega) hc]; exact h3⟩
      rw [if_neg (fun h4 => h2 h4.2)]
      exact g.2.2.1 p hp c hc e
  · show (if p < P ∧ inS (bs (ovS q W H S P s) (W * H)) (sP s p) = true then -2 else sP s p) = -1
    rw [if_neg (by omega)]
    exact g.2.2.2.2 h0 p h1 h2
theorem gS_clm {t : Int32} {n N : Nat} (g : gS s N P) : gS (clmS t n s) N P := g
theorem gS_put {x : Int32} {N : Nat} (g : gS s N P) (hp : p < P) (hx : x = -1 ∨ ∃ c, c < N ∧ x = nI c ∧ ¬ sI s c = 0) (hN : N ≤ 18) : gS (putS s p x) N P := by
  refine ⟨g.1, fun p' hp' => ?_, fun p' hp' c hc e => ?_, g.2.2.2.1, fun h0 p' h1 h2 => ?_⟩
  · show vP N (if p' = p then x else sP s p')
    split
    · rcases hx with h | ⟨c, h1, h2, -⟩
      · exact Or.inr (Or.inl h)
      · exact Or.inr (Or.inr ⟨c, h1, h2⟩)
    · exact g.2.1 p' hp'
  · have e : (if p' = p then x else sP s p') = nI c := e
    show ¬ sI s c = 0
    by_cases h : p' = p
    · rw [if_pos h] at e
      rcases hx with h | ⟨c', h1, h2, h3⟩
      · rw [h] at e
        exact absurd e.symm (m1_ne (by omega))
      · rw [h2] at e
        have : c' = c := (nI_eq (by omega) (by omega)).mp e
        subst this
        exact h3
    · rw [if_neg h] at e
      exact g.2.2.1 p' hp' c hc e
  · show (if p' = p then x else sP s p') = -1
    rw [if_neg (by omega)]
    exact g.2.2.2.2 h0 p' h1 h2
theorem goS_t {W N col c : Nat} {pl : Int32} {inc : Nat → Int32} (h : goS W N col pl inc c = true) : ¬ inc c = 0 := by
  unfold goS at h
  rw [Bool.and_eq_true] at h
  simpa using h.1
end WAY
theorem mR_fr {μ μ' : ic_M} {W H S P : Nat} (h : μ' 92 = μ 92) (hm : mR μ W H S P) : mR μ' W H S P := by
  unfold mR at hm ⊢
  rw [h]; exact hm
/-! ===== snow, spring, step ===== -/
theorem pu_snow {sw : Nat} {μ : ic_M} (hI : ic_I sw μ) (a1 a2 : Int32) (h2 : a2 = 0 ∨ a2 = 1) : ∃ (v : Int32) (μ1 : ic_M) (μ2 : ic_M), fX8_snow sw μ a1 a2 = some (v, μ1) ∧ fX9_snow μ1 a1 a2 = some (v, μ2) ∧ ic_I sw μ2 := by
  obtain ⟨W, H, S, P, h⟩ := id hI
  obtain ⟨ho, hr, hm, hl, -⟩ := h.1
  have hN := rOK_N ho
  unfold fX8_snow fX9_snow
  rw [c_isCell hr.2.2.2.1, bd_some]
  by_cases hc : bI (isC (W * H) a1) = 0
  · exact ⟨-1000000001, μ, μ, by rw [if_pos hc], by rw [m_isCell hm ho, bd_some, if_pos hc], hI⟩
  obtain ⟨c, hcN, rfl⟩ := isC_f (by omega) hc
  rw [if_neg hc]
  refine deedK h (A := fun m22 => Option.bind (fX1_isSnowy m22 4 (nI c)) (fun v23 => Option.bind (if v23 = 0 then some (0 : Int32) else some (1 : Int32)) (fun q24 => Option.bind (fX1_laySnow m22 4 (nI c) a2) (fun m25 => some (q24, m25))))) (B := fun m22 => ic_ag m22 98 28 (24 : Int32) (fun v23 => ic_lt (((v23 >>> (nI c &&& 31)) &&& (1 : Int32))) (fun x24 => Option.bind (if a2 = 0 then ic_ag m22 98 28 (24 : Int32) (fun v26 => some (v26 &&& (((1 : Int32) <<< (nI c &&& 31)) ^^^ (-1 : Int32)))) else ic_ag m22 98 28 (24 : Int32) (fun v27 => some (v27 ||| ((1 : Int32) <<< (nI c &&& 31))))) (fun q25 => ic_as m22 98 28 (24 : Int32) q25 (fun m28 => some (x24, m28)))))) (fun s _ _ g => ⟨(sI s, sP s, if a2 = 0 then sSn s &&& ((1 : Int32) <<< (nI c &&& 31) ^^^ (-1)) else sSn s ||| (1 : Int32) <<< (nI c &&& 31), sNi s, sOw s, sBr s), bI (bt (sSn s) c), g, fun m e _ _ hA => ?_, fun m e _ _ hA => ?_⟩) (fun v μ1 μ2 e1 e2 e3 e4 => ?_)
  · refine ⟨ic_up m 4 2 (if a2 = 0 then sSn s &&& ((1 : Int32) <<< (nI c &&& 31) ^^^ (-1)) else sSn s ||| (1 : Int32) <<< (nI c &&& 31)), ?_, ⟨fun c hc => ?_, fun p hp => ?_, ?_, ?_, ?_, ?_⟩, fun b hb => ic_up_ne (by omega)⟩
    · unfold fX1_isSnowy fX1_laySnow
      rw [isIn_e m (by omega), bd_some, rz_b, bd_some, hA.2.2.1]
      simp only [pu_e, bd_some, bI_0]
      rcases h2 with rfl | rfl
      · cases bt (sSn s) c <;> rfl
      · cases bt (sSn s) c <;> rfl
    · rw [ic_up_ne (by omega)]; exact hA.1 c hc
    · rw [ic_up_ne (by omega)]; exact hA.2.1 p hp
    · rw [ic_up_eq, pk_us]
    · rw [ic_up_eq, pk_un (by omega)]; exact hA.2.2.2.1
    · rw [ic_up_eq, pk_un (by omega)]; exact hA.2.2.2.2.1
    · rw [ic_up_eq, pk_un (by omega)]; exact hA.2.2.2.2.2
  · refine ⟨ic_up m 98 24 (if a2 = 0 then sSn s &&& ((1 : Int32) <<< (nI c &&& 31) ^^^ (-1)) else sSn s ||| (1 : Int32) <<< (nI c &&& 31)), ?_, ⟨fun c hc => ?_, fun p hp => ?_, ?_, ?_, ?_, ?_⟩, fun b hb => ic_up_ne hb⟩
    · have e24 : ∀ {α : Type} (T : Int32 → Option α), ic_ag m 98 28 (24 : Int32) T = T (sSn s) := fun T => by
        rw [show ic_ag m 98 28 (24 : Int32) T = ic_ag m 98 28 (nI 24) T from rfl, ag_n (by omega) (by omega), hA.2.2.1]
      simp only [e24, lt_e, hs_e (show c < 32 by omega), show ic_as m 98 28 (24 : Int32) = ic_as m 98 28 (nI 24) from rfl]
      rcases h2 with rfl | rfl
      · rw [if_pos rfl, bd_some, as_n (by omega) (by omega), if_pos rfl]
      · rw [if_neg one_ne0, bd_some, as_n (by omega) (by omega), if_neg one_ne0]
    · rw [ic_up_eq, pk_un (by omega)]; exact hA.1 c hc
    · rw [ic_up_eq, pk_un (by omega)]; exact hA.2.1 p hp
    · rw [ic_up_eq, pk_us]
    · rw [ic_up_eq, pk_un (by omega)]; exact hA.2.2.2.1
    · rw [ic_up_eq, pk_un (by omega)]; exact hA.2.2.2.2.1
    · rw [ic_up_eq, pk_un (by omega)]; exact hA.2.2.2.2.2
  · exact ⟨v, μ1, μ2, e1, by rw [m_isCell (mR_fr (e3 92 (by omega) (by omega) (by omega)) hm) ho, bd_some, if_neg hc]; exact e2, e4⟩
def sprS (s : iceS) : iceS := (sI s, fun p => if sP s p = -2 then -2 else -1, sSn s, sNi s, -1, sBr s)
theorem c_spring {m : ic_M} {s : iceS} (hA : icA m 4 s) : ∃ m', fX1_comeSpring m 4 = some m' ∧ icA m' 4 (sprS s) ∧ ∀ b, ¬ (4 ≤ b ∧ b ≤ 6) → m' b = m b := by
  have k1 := for_M (lp := fun fu i x => lpX1_comeSpring_7 4 fu (nI i) x) (M := pm (ic_up m 4 4 (-1)) 6 0 (fun p => !decide (m 6 p = -2)) (fun _ => -1)) (fin := some (pm (ic_up m 4 4 (-1)) 6 0 (fun p => !decide (m 6 p = -2)) (fun _ => -1) 6)) 6 (by omega) (fun fu i hi => by
      rw [lpX1_comeSpring_7, if_neg (show ¬ (6 : Int32) ≤ nI i from nI_ge (b := 6) hi (by omega)), ag_n (by omega) (by omega), show 4 + 2 = 6 from rfl, pm_ge (by omega), ic_up_ne (by omega)]
      simp only [lt_e, nI_1]
      by_cases h : m 6 i = -2
      · rw [if_pos h, bd_some, ← pm_f (i := i) (by simp [h])]
      · rw [if_neg h, as_n (by omega) (by omega), bd_some, ← pm_t (i := i) (by simp [h]), Nat.zero_add]) (fun fu => by
      rw [lpX1_comeSpring_7, if_pos (by decide)])
  rw [pm_0] at k1
  have k1 : lpX1_comeSpring_7 4 1000 0 (ic_up m 4 4 (-1)) = _ := k1
  refine ⟨_, by unfold fX1_comeSpring; rw [pu_e, k1]; rfl, ⟨fun c hc => ?_, fun p hp => ?_, ?_, ?_, ?_, ?_⟩, fun b hb => ?_⟩
  · rw [pm_ne (by omega), ic_up_ne (by omega)]; exact hA.1 c hc
  · show pm _ 6 0 _ _ 6 6 p = if sP s p = -2 then -2 else -1
    have e6 : m 6 p = sP s p := hA.2.1 p hp
    rw [pm_in0 hp, ic_up_ne (by omega), e6]
    by_cases h : sP s p = -2
    · simp [h]
    · simp [h]
  · rw [pm_ne (by omega), ic_up_eq, pk_un (by omega)]; exact hA.2.2.1
  · rw [pm_ne (by omega), ic_up_eq, pk_un (by omega)]; exact hA.2.2.2.1
  · rw [pm_ne (by omega), ic_up_eq, pk_us]; rfl
  · rw [pm_ne (by omega), ic_up_eq, pk_un (by omega)]; exact hA.2.2.2.2.2
  · funext k
    rw [pm_ne (by omega), ic_up_ne (by omega)]
theorem m_spring {m : ic_M} {s : iceS} {P : Nat} {x : Int32} (hP : P ≤ 6) (hm : m 92 3 = nI P) (hA : rwA m 98 s) (hge : ∀ p, P ≤ p → p < 6 → sP s p = -1) : ∃ m', Option.bind (lpX9_spring_32 x 1000 0 (ic_up m 98 25 (-1))) (fun q => some (x, q)) = some (x, m') ∧ rwA m' 98 (sprS s) ∧ ∀ b, b ≠ 98 → m' b = m b := by
  have k1 := for_M (lp := fun fu i y => lpX9_spring_32 x fu (nI i) y) (M := pm (ic_up m 98 25 (-1)) 98 18 (fun _ => true) (fun p => if m 98 (18 + p) = -2 then -2 else -1)) (fin := some (pm (ic_up m 98 25 (-1)) 98 18 (fun _ => true) (fun p => if m 98 (18 + p) = -2 then -2 else -1) P)) P (by omega) (fun fu i hi => by
      rw [lpX9_spring_32, show ∀ q, ic_ag q 92 7 (3 : Int32) = ic_ag q 92 7 (nI 3) from fun _ => rfl, m_ag92 (by omega), pm_ne (by omega), ic_up_ne (by omega), hm, if_neg (nI_ge hi (by omega)), show (18 : Int32) + nI i = nI (18 + i) from nI_add 18 i, ag_n (by omega) (by omega), pm_ge (by omega), ic_up_eq, pk_un (by omega)]
      simp only [lt_e, nI_1]
      rw [← pm_t (i := i) rfl]
      by_cases h : m 98 (18 + i) = -2
      · rw [if_pos h, bd_some, as_n (by omega) (by omega), if_pos h]
      · rw [if_neg h, bd_some, as_n (by omega) (by omega), if_neg h]) (fun fu => by
      rw [lpX9_spring_32, show ∀ q, ic_ag q 92 7 (3 : Int32) = ic_ag q 92 7 (nI 3) from fun _ => rfl, m_ag92 (by omega), pm_ne (by omega), ic_up_ne (by omega), hm, if_pos (by exact nI_le (Nat.le_refl _) (by omega))])
  rw [pm_0] at k1
  have k1 : lpX9_spring_32 x 1000 0 (ic_up m 98 25 (-1)) = _ := k1
  refine ⟨_, by rw [k1]; rfl, ⟨fun c hc => ?_, fun p hp => ?_, ?_, ?_, ?_, ?_⟩, fun b hb => ?_⟩
  · rw [pm_ge (by omega), ic_up_eq, pk_un (by omega)]; exact hA.1 c hc
  · show _ = if sP s p = -2 then -2 else -1
    by_cases h : p < P
    · rw [pm_in h, if_pos rfl, hA.2.1 p hp]
    · rw [pm_ge (by omega), ic_up_eq, pk_un (by omega), hA.2.1 p hp, hge p (by omega) hp]; rfl
  · rw [pm_ge (by omega), ic_up_eq, pk_un (by omega)]; exact hA.2.2.1
  · rw [pm_ge (by omega), ic_up_eq, pk_un (by omega)]; exact hA.2.2.2.1
  · rw [pm_ge (by omega), ic_up_eq, pk_us]; rfl
  · rw [pm_ge (by omega), ic_up_eq, pk_un (by omega)]; exact hA.2.2.2.2.2
  · funext k
    rw [pm_ne hb, ic_up_ne hb]
theorem pu_spring {sw : Nat} {μ : ic_M} (hI : ic_I sw μ) : ∃ (v : Int32) (μ1 : ic_M) (μ2 : ic_M), fX8_spring sw μ = some (v, μ1) ∧ fX9_spring μ1 = some (v, μ2) ∧ ic_I sw μ2 := by
  obtain ⟨W, H, S, P, h⟩ := id hI
  obtain ⟨ho, hr, hm, hl, -⟩ := h.1
  have hN := rOK_N ho
  have hP := rOK_P ho
  unfold fX8_spring fX9_spring
  rw [c_noRiver hr ho, bd_some]
  by_cases hW : W = 0
  · exact ⟨-1000000003, μ, μ, by simp [hW, bI], by rw [m_isRiver hm ho, bd_some]; simp [hW, bI], hI⟩
  · have hN0 : 0 < W * H := by
      rcases ho with ⟨h1, h2, h3, h4, -⟩ | ⟨h1, -⟩
      · have := rivY_le ⟨h1, h2, h3, h4⟩; omega
      · omega
    rw [if_pos (by simp [hW, bI])]
    refine deedK h (A := fun m22 => ic_lt ((m22 4 4)) (fun x23 => Option.bind (fX1_comeSpring m22 4) (fun m24 => some (x23, m24)))) (B := fun m22 => ic_ag m22 98 28 (25 : Int32) (fun v23 => ic_as m22 98 28 (25 : Int32) (-1 : Int32) (fun m24 => Option.bind (lpX9_spring_32 v23 1000 (0 : Int32) m24) (fun q30 => some (v23, q30))))) (fun s _ _ g => ⟨sprS s, sOw s, ⟨g.1, fun p hp => ?_, fun p hp c hc e => ?_, g.2.2.2.1, fun h0 p h1 h2 => ?_⟩, fun m e _ _ hA => ?_, fun m e _ _ hA => ?_⟩) (fun v μ1 μ2 e1 e2 e3 e4 => ?_)
    · show vP (W * H) (if sP s p = -2 then -2 else -1)
      split
      · exact Or.inl rfl
      · exact Or.inr (Or.inl rfl)
    · have e : (if sP s p = -2 then -2 else (-1 : Int32)) = nI c := e
      exfalso
      split at e
      · exact m2_ne (by omega) e
      · exact m1_ne (by omega) e.symm
    · show (if sP s p = -2 then -2 else -1) = (-1 : Int32)
      rw [g.2.2.2.2 h0 p h1 h2]; rfl
    · obtain ⟨m', k1, k2, k3⟩ := c_spring hA
      exact ⟨m', by rw [lt_e, k1, bd_some, hA.2.2.2.2.1], k2, k3⟩
    · obtain ⟨m', k1, k2, k3⟩ := m_spring (x := sOw s) hP e.1.2.2.1.2.2.2 hA (fun p h1 h2 => g.2.2.2.2 hN0 p h1 h2)
      refine ⟨m', ?_, k2, k3⟩
      rw [show ic_ag m 98 28 (25 : Int32) = ic_ag m 98 28 (nI 25) from rfl, ag_n (by omega) (by omega), hA.2.2.2.2.1, show ic_as m 98 28 (25 : Int32) = ic_as m 98 28 (nI 25) from rfl, as_n (by omega) (by omega)]
      exact k1
    · exact ⟨v, μ1, μ2, e1, by rw [m_isRiver (mR_fr (e3 92 (by omega) (by omega) (by omega)) hm) ho, bd_some, if_neg (by simp [hW, bI])]; exact e2, e4⟩
theorem pu_step {sw : Nat} {μ : ic_M} (hI : ic_I sw μ) (a1 a2 : Int32) : ∃ (v : Int32) (μ1 : ic_M) (μ2 : ic_M), fX8_step sw μ a1 a2 = some (v, μ1) ∧ fX9_step μ1 a1 a2 = some (v, μ2) ∧ ic_I sw μ2 := by
  obtain ⟨W, H, S, P, h⟩ := id hI
  obtain ⟨ho, hr, hm, hl, -⟩ := h.1
  have hN := rOK_N ho
  have hP := rOK_P ho
  have hl := ld_hi sw
  obtain ⟨s, s1, s2, s3⟩ := iN_to h.2.2.2.2.1
  have E := env_J h
  have il98 := il_m.1
  unfold fX8_step fX9_step
  rw [c_isPerson hr.2.2.2.2, bd_some]
  by_cases hc : bI (isC P a1) = 0
  · exact ⟨-1000000001, μ, μ, by rw [if_pos hc], by rw [m_isPerson hm ho, bd_some, if_pos hc], hI⟩
  obtain ⟨p, hp, rfl⟩ := isC_f (by omega) hc
  rw [if_neg hc]
  have key : ∀ x : Int32, (x = -1 ∨ ∃ c, c < W * H ∧ x = nI c ∧ ¬ μ 5 c = 0) → ∀ {G : Prop}, (∀ (v : Int32) (μ1 μ2 : ic_M), Option.bind (fX3_remember μ 4) (fun m23 => Option.bind (fX1_go m23 4 (ic_ld sw) (nI p) x) (fun q24 => some (q24.1, q24.2))) = some (v, μ1) → Option.bind (fX9_notes μ1) (fun m23 => Option.bind (fX9_steps m23 98 (nI p) x) (fun q24 => some (q24.1, q24.2))) = some (v, μ2) → (∀ b, b ≠ 7 → ¬ (9 ≤ b ∧ b ≤ 56) → ¬ (4 ≤ b ∧ b ≤ 6) → μ1 b = μ b) → ic_I sw μ2 → G) → G := by
    intro x hx G k
    have hvx : vP (W * H) x := by
      rcases hx with h | ⟨c, h1, h2, -⟩
      · exact Or.inr (Or.inl h)
      · exact Or.inr (Or.inr ⟨c, h1, h2⟩)
    refine deedK h (fun s s1 s2 g => ⟨goR (μ 94) W H S P s p x, nI (nbS (μ 94) W H S P (putS s p x)), ?_, fun m e _ _ hA => ?_, fun m e _ _ hA => ?_⟩) k
    · refine gS_clm (gS_brk hP hN (gS_put g hp ?_ hN))
      rcases hx with h | ⟨c, h1, h2, h3⟩
      · exact Or.inl h
      · exact Or.inr ⟨c, h1, h2, by rw [← s1.1 c (by omega)]; exact h3⟩
    · obtain ⟨m', k1, k2, k3⟩ := c_go e hA (by omega) hp hvx g.2.1
      exact ⟨m', by rw [k1]; rfl, k2, fun b hb => k3 b (by omega) (by omega) (by omega)⟩
    · obtain ⟨m', k1, k2, k3⟩ := m_steps e (Or.inl rfl) hA g.1 hp hvx g.2.1
      exact ⟨m', by rw [k1]; rfl, k2, k3⟩
  by_cases hx : a2 = -1
  · subst hx
    rw [if_pos rfl, c_canOff E s1 hp (s3.2.1 p hp), bd_some]
    cases hg : offS W (colN W (μ 94 (2 * p))) (sP s p)
    · exact ⟨-1000000003, μ, μ, by rw [bI_f, if_pos rfl], by rw [m_isPerson hm ho, bd_some, if_neg hc, if_pos rfl, m_canOff E il98 s2 hp (s3.2.1 p hp), bd_some, hg, bI_f, if_pos rfl], hI⟩
    · rw [bI_t, if_neg one_ne0]
      refine key (-1) (Or.inl rfl) (fun v μ1 μ2 e1 e2 e3 e4 => ⟨v, μ1, μ2, e1, ?_, e4⟩)
      have E1 : env (ic_ld sw) μ1 (μ 94) W H S P := env_fr (fun b hb => e3 b (by omega) (by omega) (by omega)) E
      rw [m_isPerson E1.1.2.2.1 ho, bd_some, if_neg hc, if_pos rfl, m_canOff E1 il98 (rwA_fr (e3 98 (by omega) (by omega) (by omega)) s2) hp (s3.2.1 p hp), bd_some, hg, bI_t, if_neg one_ne0]
      exact e2
  · rw [if_neg hx, c_isCell hr.2.2.2.1, bd_some]
    by_cases hc2 : bI (isC (W * H) a2) = 0
    · exact ⟨-1000000001, μ, μ, by rw [if_pos hc2], by rw [m_isPerson hm ho, bd_some, if_neg hc, if_neg hx, m_isCell hm ho, bd_some, if_pos hc2], hI⟩
    obtain ⟨c, hcN, rfl⟩ := isC_f (by omega) hc2
    rw [if_neg hc2, c_canC E s1 hp (s3.2.1 p hp) hcN, bd_some]
    cases hg : goS W (W * H) (colN W (μ 94 (2 * p))) (sP s p) (sI s) c
    · exact ⟨-1000000003, μ, μ, by rw [bI_f, if_pos rfl], by rw [m_isPerson hm ho, bd_some, if_neg hc, if_neg hx, m_isCell hm ho, bd_some, if_neg hc2, m_canC E il98 s2 s3.1 hp (s3.2.1 p hp) hcN, bd_some, hg, bI_f, if_pos rfl], hI⟩
    · rw [bI_t, if_neg one_ne0]
      refine key (nI c) (Or.inr ⟨c, hcN, rfl, by rw [show μ 5 c = sI s c from s1.1 c (by omega)]; exact goS_t hg⟩) (fun v μ1 μ2 e1 e2 e3 e4 => ⟨v, μ1, μ2, e1, ?_, e4⟩)
      have E1 : env (ic_ld sw) μ1 (μ 94) W H S P := env_fr (fun b hb => e3 b (by omega) (by omega) (by omega)) E
      rw [m_isPerson E1.1.2.2.1 ho, bd_some, if_neg hc, if_neg hx, m_isCell E1.1.2.2.1 ho, bd_some, if_neg hc2, m_canC E1 il98 (rwA_fr (e3 98 (by omega) (by omega) (by omega)) s2) s3.1 hp (s3.2.1 p hp) hcN, bd_some, hg, bI_t, if_neg one_ne0]
      exact e2
