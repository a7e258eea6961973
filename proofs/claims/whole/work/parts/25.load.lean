/-! ===== cells, persons, loads: both sides tied to one value ===== -/
def adj (W a c : Nat) : Bool := (decide (a / W = c / W) && (decide (a % W = c % W + 1) || decide (c % W = a % W + 1))) || (decide (a % W = c % W) && (decide (a / W = c / W + 1) || decide (c / W = a / W + 1)))
def rOK (W H S P : Nat) : Prop := (2 ≤ W ∧ W ≤ 6 ∧ 1 ≤ H ∧ H ≤ 3 ∧ 1 ≤ S ∧ S ≤ 30 ∧ P ≤ 6) ∨ (W = 0 ∧ H = 0 ∧ S = 0 ∧ P = 0)
def rivY (W H : Nat) : Prop := 2 ≤ W ∧ W ≤ 6 ∧ 1 ≤ H ∧ H ≤ 3
theorem rivY_le {W H : Nat} (h : rivY W H) : W * H ≤ 18 ∧ 2 ≤ W * H := by
  obtain ⟨h1, h2, h3, h4⟩ := h
  constructor
  · calc W * H ≤ 6 * 3 := Nat.mul_le_mul h2 h4
      _ = 18 := rfl
  · calc 2 = 2 * 1 := rfl
      _ ≤ W * H := Nat.mul_le_mul h1 h3
/-- a river of the class's, the law of the model's -/
def cR (μ : ic_M) (r W H S P : Nat) : Prop := μ r 8 = nI W ∧ μ r 9 = nI H ∧ μ r 10 = nI S ∧ μ r 11 = nI (W * H) ∧ μ r 12 = nI P
def mR (μ : ic_M) (W H S P : Nat) : Prop := μ 92 0 = nI W ∧ μ 92 1 = nI H ∧ μ 92 2 = nI S ∧ μ 92 3 = nI P
/-- where a person may be -/
def vP (N : Nat) (x : Int32) : Prop := x = -2 ∨ x = -1 ∨ ∃ a, a < N ∧ x = nI a
/-! one value at a place -/
theorem c_inch {μ : ic_M} {a c : Nat} (h : c < 18) : fX1_inchesOf μ a (nI c) = some (μ (a + 1) c) := by
  unfold fX1_inchesOf
  rw [if_neg (nI_pos (by omega)), if_neg (show ¬ (18 : Int32) ≤ nI c from nI_ge h (by decide)), ag_n h (by omega)]
  rfl
theorem c_place {μ : ic_M} {a p : Nat} (h : p < 6) : fX1_placeOf μ a (nI p) = some (μ (a + 2) p) := by
  unfold fX1_placeOf
  rw [if_neg (nI_pos (by omega)), if_neg (show ¬ (6 : Int32) ≤ nI p from nI_ge h (by decide)), ag_n h (by omega)]
  rfl
theorem c_weight {μ : ic_M} {r p : Nat} (h : p < 6) : fX5_weightOf μ r (nI p) = some (μ (r + 5) p) := by
  unfold fX5_weightOf
  rw [if_neg (nI_pos (by omega)), if_neg (show ¬ (6 : Int32) ≤ nI p from nI_ge h (by decide)), ag_n h (by omega)]
  rfl
theorem c_town {μ : ic_M} {r p : Nat} (h : p < 6) : fX5_townOf μ r (nI p) = some (μ (r + 4) p) := by
  unfold fX5_townOf
  rw [if_neg (nI_pos (by omega)), if_neg (show ¬ (6 : Int32) ≤ nI p from nI_ge h (by decide)), ag_n h (by omega)]
  rfl
theorem c_setI {μ : ic_M} {a c : Nat} {v : Int32} (h : c < 18) : fX1_setInches μ a (nI c) v = some (ic_up μ (a + 1) c v) := by
  unfold fX1_setInches
  rw [if_neg (nI_pos (by omega)), if_neg (show ¬ (18 : Int32) ≤ nI c from nI_ge h (by decide)), as_n h (by omega)]
  rfl
theorem c_putP {μ : ic_M} {a p : Nat} {v : Int32} (h : p < 6) : fX1_putPerson μ a (nI p) v = some (ic_up μ (a + 2) p v) := by
  unfold fX1_putPerson
  rw [if_neg (nI_pos (by omega)), if_neg (show ¬ (6 : Int32) ≤ nI p from nI_ge h (by decide)), as_n h (by omega)]
  rfl
theorem c_hole {μ : ic_M} {a c : Nat} (h : c < 18) : fX1_isHole μ a (nI c) = some (bI (decide (μ (a + 1) c = 0))) := by
  unfold fX1_isHole
  rw [c_inch h, bd_some]
  by_cases h0 : μ (a + 1) c = 0
  · simp [h0, bd_some, rz_1, bI]
  · simp [h0, bd_some, rz_0, bI]
theorem c_bears {μ : ic_M} {a r W H S P c : Nat} (hr : cR μ r W H S P) (h : c < 18) : fX1_bears μ a r (nI c) = some (nI S * μ (a + 1) c) := by
  unfold fX1_bears
  rw [c_inch h, bd_some, hr.2.2.1]
theorem m_ag92 {α : Type} {μ : ic_M} {T : Int32 → Option α} {k : Nat} (h : k < 7) : ic_ag μ 92 7 (nI k) T = T (μ 92 k) := ag_n h (by omega)
theorem m_cells {μ : ic_M} {W H S P : Nat} (hm : mR μ W H S P) : fX9_cells μ = some (nI (W * H)) := by
  unfold fX9_cells
  rw [show ic_ag μ 92 7 (0 : Int32) = ic_ag μ 92 7 (nI 0) from rfl, m_ag92 (by omega), show ic_ag μ 92 7 (1 : Int32) = ic_ag μ 92 7 (nI 1) from rfl, m_ag92 (by omega), hm.1, hm.2.1, pk_mul]
theorem m_bears {μ : ic_M} {r W H S P c : Nat} (hr : ic_il 106 r = 28) (hm : mR μ W H S P) (h : c < 18) : fX9_bearsOf μ r (nI c) = some (nI S * μ r c) := by
  unfold fX9_bearsOf
  rw [show ic_ag μ 92 7 (2 : Int32) = ic_ag μ 92 7 (nI 2) from rfl, m_ag92 (by omega), hr, ag_n (by omega) (by omega), hm.2.2.1]
/-! next ones: decided for every river -/
def gnext (w n x : Int32) : Option Int32 := fX5_nextTo (fun _ k => if k = 8 then w else if k = 11 then n else 0) 0 x
theorem c_next0 (μ : ic_M) (r : Nat) (x : Int32) : fX5_nextTo μ r x = gnext (μ r 8) (μ r 11) x := rfl
def gaN (w x y : Int32) : Option Int32 := fX9_areNext (fun _ k => if k = 0 then w else 0) x y
theorem m_next0 (μ : ic_M) (x y : Int32) : fX9_areNext μ x y = gaN (μ 92 0) x y := rfl
/-- the set of those next to c -/
def nbs (W N c : Nat) : Int32 := bs (fun a => adj W a c) N
theorem gnext_e : ∀ W, W < 7 → ∀ H, H < 4 → ∀ c, c < 18 → (2 ≤ W ∧ 1 ≤ H ∧ c < W * H) → gnext (nI W) (nI (W * H)) (nI c) = some (nbs W (W * H) c) := by decide +kernel
theorem gaN_e : ∀ W, W < 7 → ∀ a, a < 18 → ∀ c, c < 18 → 2 ≤ W → gaN (nI W) (nI a) (nI c) = some (bI (adj W a c)) := by decide +kernel
theorem c_next {μ : ic_M} {r W H S P c : Nat} (hr : cR μ r W H S P) (hy : rivY W H) (h : c < W * H) : fX5_nextTo μ r (nI c) = some (nbs W (W * H) c) := by
  have := rivY_le hy
  obtain ⟨h1, h2, h3, h4⟩ := hy
  rw [c_next0, hr.1, hr.2.2.2.1]
  exact gnext_e W (by omega) H (by omega) c (by omega) ⟨h1, h3, h⟩
theorem m_next {μ : ic_M} {W H S P a c : Nat} (hm : mR μ W H S P) (hy : rivY W H) (ha : a < 18) (h : c < 18) : fX9_areNext μ (nI a) (nI c) = some (bI (adj W a c)) := by
  obtain ⟨h1, h2, h3, h4⟩ := hy
  rw [m_next0, hm.1]
  exact gaN_e W (by omega) a ha c h h1
theorem adj_self (W c : Nat) : adj W c c = false := by simp [adj]
/-! sums -/
def sumS (P : Nat) (f : Nat → Int32) : Int32 := itr (fun p s => s + f p) 0 P 0
theorem sumS_succ (P : Nat) (f : Nat → Int32) : sumS (P + 1) f = sumS P f + f P := by
  unfold sumS
  rw [itr_succ, Nat.zero_add]
theorem sumS_congr {P : Nat} {f g : Nat → Int32} (h : ∀ p, p < P → f p = g p) : sumS P f = sumS P g := itr_congr P 0 0 (fun j s _ hj => by rw [h j (by omega)])
/-- is x a cell next to c -/
def adjX (W N : Nat) (x : Int32) (c : Nat) : Bool := decide (¬ x < 0) && decide (x.toNatClampNeg < N) && adj W x.toNatClampNeg c
theorem adjX_n {W N a c : Nat} (ha : a < N) (hN : N ≤ 18) : adjX W N (nI a) c = adj W a c := by
  unfold adjX
  rw [nI_clamp (by omega)]
  simp [nI_pos (show a < 2 ^ 31 by omega), ha]
theorem adjX_neg {W N c : Nat} {x : Int32} (h : x < 0) : adjX W N x c = false := by simp [adjX, h]
theorem vP_neg {x : Int32} (h : x = -2 ∨ x = -1) : x < 0 := by rcases h with rfl | rfl <;> decide
/-- what lies on a cell -/
def ldS (W N P : Nat) (wt plc : Nat → Int32) (c : Nat) : Int32 := sumS P (fun p => if plc p = nI c then wt p else 0) + sumS P (fun p => if adjX W N (plc p) c = true then wt p else 0) / 2
theorem ldS_congr {W N P c : Nat} {wt wt' plc plc' : Nat → Int32} (hw : ∀ p, p < P → wt p = wt' p) (hp : ∀ p, p < P → plc p = plc' p) : ldS W N P wt plc c = ldS W N P wt' plc' c := by
  unfold ldS
  rw [sumS_congr (g := fun p => if plc' p = nI c then wt' p else 0) (fun p h => by rw [hw p h, hp p h]), sumS_congr (f := fun p => if adjX W N (plc p) c = true then wt p else 0) (g := fun p => if adjX W N (plc' p) c = true then wt' p else 0) (fun p h => by rw [hw p h, hp p h])]
theorem itr_pair {g1 g2 : Nat → Int32 → Int32} : ∀ (n i : Nat) (s : Int32 × Int32), itr (fun p s => (g1 p s.1, g2 p s.2)) i n s = (itr g1 i n s.1, itr g2 i n s.2)
  | 0, i, s => rfl
  | n + 1, i, s => by
    show itr _ (i + 1) n _ = _
    rw [itr_pair n (i + 1)]
    rfl
theorem c_load {μ : ic_M} {a r W H S P c : Nat} (hr : cR μ r W H S P) (hy : rivY W H) (hP : P ≤ 6) (hc : c < W * H) (hp : ∀ p, p < P → vP (W * H) (μ (a + 2) p)) : fX1_load μ a r (nI c) = some (ldS W (W * H) P (μ (r + 5)) (μ (a + 2)) c) := by
  have hN := rivY_le hy
  unfold fX1_load
  rw [c_next hr hy hc, bd_some]
  have key := for_e (lp := fun fu i (s : Int32 × Int32) => lpX1_load_15 μ a r (nI c) (nbs W (W * H) c) fu s.1 s.2 (nI i)) (fin := some) (g := fun p s => (s.1 + (if μ (a + 2) p = nI c then μ (r + 5) p else 0), s.2 + (if adjX W (W * H) (μ (a + 2) p) c = true then μ (r + 5) p else 0))) P (fun _ _ => True) ?_ (fun _ _ _ _ => trivial) ?_ P 1000 0 (0, 0) (by omega) (by omega) trivial
  · have key : lpX1_load_15 μ a r (nI c) (nbs W (W * H) c) 1000 0 0 0 = _ := key
    rw [key, bd_some, itr_pair (g1 := fun p s => s + (if μ (a + 2) p = nI c then μ (r + 5) p else 0)) (g2 := fun p s => s + (if adjX W (W * H) (μ (a + 2) p) c = true then μ (r + 5) p else 0)), if_neg (by decide)]
    rfl
  · intro fu i s hi _
    dsimp only
    rw [lpX1_load_15, hr.2.2.2.2, if_neg (nI_ge hi (by omega)), c_place (by omega), bd_some]
    simp only [lt_e, show nI i + 1 = nI (i + 1) from nI_1 i]
    rcases hp i hi with h | h | ⟨b, hb, h⟩
    · have hx : μ (a + 2) i < 0 := vP_neg (Or.inl h)
      have hne : ¬ μ (a + 2) i = nI c := fun e => nI_pos (show c < 2 ^ 31 by omega) (e ▸ hx)
      rw [if_neg hne, bd_some, isIn_neg μ hx, bd_some, if_pos rfl, bd_some, adjX_neg hx]
      simp [hne, Int32.add_zero]
    · have hx : μ (a + 2) i < 0 := vP_neg (Or.inr h)
      have hne : ¬ μ (a + 2) i = nI c := fun e => nI_pos (show c < 2 ^ 31 by omega) (e ▸ hx)
      rw [if_neg hne, bd_some, isIn_neg μ hx, bd_some, if_pos rfl, bd_some, adjX_neg hx]
      simp [hne, Int32.add_zero]
    · rw [h, adjX_n hb hN.1]
      by_cases hbc : b = c
      · subst hbc
        rw [if_pos rfl, c_weight (by omega), bd_some, bd_some, adj_self]
        simp [Int32.add_zero]
      · have hne : ¬ nI b = nI c := fun e => hbc ((nI_eq (by omega) (by omega)).mp e)
        rw [if_neg hne, bd_some, isIn_e μ (by omega), bd_some, nbs, bs_bt (by omega) (by omega)]
        simp only [bI_0, hb, decide_true, Bool.true_and]
        cases adj W b c
        · simp [bd_some, hne, Int32.add_zero]
        · simp [bd_some, hne, Int32.add_zero, c_weight (show i < 6 by omega), lt_e]
  · intro fu s _
    rw [lpX1_load_15, hr.2.2.2.2, if_pos (by exact nI_le (Nat.le_refl _) (by omega))]
theorem m_load {μ : ic_M} {r W H S P c : Nat} (hr : ic_il 106 r = 28) (hm : mR μ W H S P) (hy : rivY W H) (hP : P ≤ 6) (hc : c < W * H) (hp : ∀ p, p < P → vP (W * H) (μ r (18 + p))) : fX9_loadOf μ r (nI c) = some (ldS W (W * H) P (fun p => μ 94 (2 * p + 1)) (fun p => μ r (18 + p)) c) := by
  have hN := rivY_le hy
  unfold fX9_loadOf
  have key := for_e (lp := fun fu i (s : Int32 × Int32) => lpX9_loadOf_8 μ r (nI c) fu s.1 s.2 (nI i)) (fin := some) (g := fun p s => (s.1 + (if μ r (18 + p) = nI c then μ 94 (2 * p + 1) else 0), s.2 + (if adjX W (W * H) (μ r (18 + p)) c = true then μ 94 (2 * p + 1) else 0))) P (fun _ _ => True) ?_ (fun _ _ _ _ => trivial) ?_ P 1000 0 (0, 0) (by omega) (by omega) trivial
  · have key : lpX9_loadOf_8 μ r (nI c) 1000 0 0 0 = _ := key
    rw [key, bd_some, itr_pair (g1 := fun p s => s + (if μ r (18 + p) = nI c then μ 94 (2 * p + 1) else 0)) (g2 := fun p s => s + (if adjX W (W * H) (μ r (18 + p)) c = true then μ 94 (2 * p + 1) else 0)), if_neg (by decide)]
    rfl
  · intro fu i s hi _
    dsimp only
    have e18 : (18 : Int32) + nI i = nI (18 + i) := nI_add 18 i
    have e2 : (2 : Int32) * nI i + 1 = nI (2 * i + 1) := by
      rw [show (2 : Int32) * nI i = nI (2 * i) from pk_mul 2 i]; exact nI_1 _
    rw [lpX9_loadOf_8, show ic_ag μ 92 7 (3 : Int32) = ic_ag μ 92 7 (nI 3) from rfl, m_ag92 (by omega), hm.2.2.2, if_neg (nI_ge hi (by omega)), hr, e18, ag_n (by omega) (by omega), e2]
    simp only [lt_e, show nI i + 1 = nI (i + 1) from nI_1 i]
    have hw : ∀ (T : Int32 → Option Int32), ic_ag μ 94 12 (nI (2 * i + 1)) T = T (μ 94 (2 * i + 1)) := fun T => ag_n (by omega) (by omega)
    rcases hp i hi with h | h | ⟨b, hb, h⟩
    · have hx : μ r (18 + i) < 0 := vP_neg (Or.inl h)
      have hne : ¬ μ r (18 + i) = nI c := fun e => nI_pos (show c < 2 ^ 31 by omega) (e ▸ hx)
      rw [if_neg hne, bd_some, if_pos hx, bd_some, adjX_neg hx]
      simp [hne]
    · have hx : μ r (18 + i) < 0 := vP_neg (Or.inr h)
      have hne : ¬ μ r (18 + i) = nI c := fun e => nI_pos (show c < 2 ^ 31 by omega) (e ▸ hx)
      rw [if_neg hne, bd_some, if_pos hx, bd_some, adjX_neg hx]
      simp [hne]
    · rw [h, adjX_n hb hN.1, if_neg (nI_pos (show b < 2 ^ 31 by omega)), m_next hm hy (by omega) (by omega), bd_some, hw]
      simp only [bI_0]
      by_cases hbc : b = c
      · subst hbc
        rw [adj_self]
        simp [bd_some]
      · have hne : ¬ nI b = nI c := fun e => hbc ((nI_eq (by omega) (by omega)).mp e)
        simp only [if_neg hne, bd_some]
        cases adj W b c
        · simp [bd_some]
        · simp [bd_some, hw]
  · intro fu s _
    rw [lpX9_loadOf_8, show ic_ag μ 92 7 (3 : Int32) = ic_ag μ 92 7 (nI 3) from rfl, m_ag92 (by omega), hm.2.2.2, if_pos (by exact nI_le (Nat.le_refl _) (by omega))]
