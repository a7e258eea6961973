/-! ===== all of, one of ===== -/
def allB (f : Nat → Bool) : Nat → Bool
  | 0 => true
  | n + 1 => allB f n && f n
theorem allB_t {f : Nat → Bool} : ∀ {n : Nat}, allB f n = true ↔ ∀ k, k < n → f k = true
  | 0 => by simp [allB]
  | n + 1 => by
    unfold allB
    rw [Bool.and_eq_true, allB_t]
    constructor
    · rintro ⟨h1, h2⟩ k hk
      by_cases h : k = n
      · subst h; exact h2
      · exact h1 k (by omega)
    · intro h
      exact ⟨fun k hk => h k (by omega), h n (by omega)⟩
def anyB (f : Nat → Bool) : Nat → Bool
  | 0 => false
  | n + 1 => anyB f n || f n
theorem anyB_t {f : Nat → Bool} : ∀ {n : Nat}, anyB f n = true ↔ ∃ k, k < n ∧ f k = true
  | 0 => by simp [anyB]
  | n + 1 => by
    unfold anyB
    rw [Bool.or_eq_true, anyB_t]
    constructor
    · rintro (⟨k, hk, h⟩ | h)
      · exact ⟨k, by omega, h⟩
      · exact ⟨n, by omega, h⟩
    · rintro ⟨k, hk, h⟩
      by_cases hn : k = n
      · subst hn; exact Or.inr h
      · exact Or.inl ⟨k, by omega, h⟩
theorem anyB_f {f : Nat → Bool} {n : Nat} (h : ∀ k, k < n → f k = false) : anyB f n = false := by
  cases hc : anyB f n
  · rfl
  · obtain ⟨k, hk, e⟩ := anyB_t.mp hc
    rw [h k hk] at e; cases e
theorem anyB_congr {f g : Nat → Bool} : ∀ {n : Nat}, (∀ k, k < n → f k = g k) → anyB f n = anyB g n
  | 0, _ => rfl
  | n + 1, h => by
    unfold anyB
    rw [anyB_congr (fun k hk => h k (by omega)), h n (by omega)]
theorem bs_or {f g : Nat → Bool} {n : Nat} (hn : n ≤ 31) : bs f n ||| bs g n = bs (fun k => f k || g k) n := by
  apply b_ext
  intro i hi
  rw [b_or, bs_bt hn hi, bs_bt hn hi, bs_bt hn hi]
  cases decide (i < n) <;> simp
theorem bs_and {f g : Nat → Bool} {n : Nat} (hn : n ≤ 31) : bs f n &&& bs g n = bs (fun k => f k && g k) n := by
  apply b_ext
  intro i hi
  rw [b_and, bs_bt hn hi, bs_bt hn hi, bs_bt hn hi]
  cases decide (i < n) <;> simp
theorem bs_one {c n : Nat} (hc : c < n) (hn : n ≤ 31) : (1 : Int32) <<< (nI c &&& 31) = bs (fun k => decide (k = c)) n := by
  apply b_ext
  intro i hi
  rw [bs_bt hn hi, b_one (by omega) hi]
  by_cases h : i = c
  · subst h; simp [hc]
  · simp [h]
theorem bs_not {x : Int32} {f : Nat → Bool} {n : Nat} (hn : n ≤ 31) (hx : ∀ k, n ≤ k → k < 32 → bt x k = false) : x &&& (bs f n ^^^ (-1)) = bs (fun k => bt x k && !(f k)) n := by
  apply b_ext
  intro i hi
  rw [b_and, b_xor, b_m1 i hi, bs_bt hn hi, bs_bt hn hi]
  by_cases h : i < n
  · simp [h]
  · simp [h, hx i (by omega) hi]
theorem bs_hi {f : Nat → Bool} {n k : Nat} (hn : n ≤ 31) (h : n ≤ k) (hk : k < 32) : bt (bs f n) k = false := by
  rw [bs_bt hn hk]; simp [show ¬ k < n by omega]
theorem bs_lo {f : Nat → Bool} {n k : Nat} (hn : n ≤ 31) (h : k < n) : bt (bs f n) k = f k := by
  rw [bs_bt hn (by omega)]; simp [h]
theorem adj_comm (W a c : Nat) : adj W a c = adj W c a := by
  unfold adj
  rw [Bool.or_comm (decide (a % W = c % W + 1)), Bool.or_comm (decide (a / W = c / W + 1))]
  have e1 : decide (a / W = c / W) = decide (c / W = a / W) := decide_eq_decide.mpr ⟨fun h => h.symm, fun h => h.symm⟩
  have e2 : decide (a % W = c % W) = decide (c % W = a % W) := decide_eq_decide.mpr ⟨fun h => h.symm, fun h => h.symm⟩
  rw [e1, e2]
/-! ===== tolls ===== -/
theorem b_all : ∀ W, W < 7 → ∀ i, i < 32 → bt ((1 : Int32) <<< (nI W &&& 31) - 1) i = decide (i < W) := by decide +kernel
theorem row_e {x : Int32} {n W : Nat} (hW : W < 7) (hn : n + W ≤ 18) : ((x >>> (nI n &&& 31)) &&& ((1 : Int32) <<< (nI W &&& 31) - 1) = (1 : Int32) <<< (nI W &&& 31) - 1) ↔ ∀ k, k < W → bt x (n + k) = true := by
  constructor
  · intro h k hk
    have h1 := congrArg (fun y => bt y k) h
    rw [b_and, b_all W hW k (by omega), b_sshr n (by omega) x (by omega), if_pos (by omega)] at h1
    simpa [hk] using h1
  · intro h
    apply b_ext
    intro i hi
    rw [b_and, b_all W hW i hi]
    by_cases h1 : i < W
    · rw [b_sshr n (by omega) x hi, if_pos (by omega), h i h1]; simp
    · simp [h1]
def rowO (inc : Nat → Int32) (W r : Nat) : Bool := allB (fun k => decide (inc (r * W + k) = 0)) W
theorem rw_le {W H r : Nat} (h : r < H) : r * W + W ≤ W * H := by
  calc r * W + W = (r + 1) * W := by rw [Nat.succ_mul]
    _ ≤ H * W := Nat.mul_le_mul_right W h
    _ = W * H := Nat.mul_comm _ _
theorem c_open {μ : ic_M} {a R W H S P : Nat} (hr : cR μ R W H S P) (ho : rOK W H S P) : fX1_openRows μ a R = some (nI (cnt (rowO (μ (a + 1)) W) H)) := by
  have hN := rOK_N ho
  have hWH : W < 7 ∧ H < 4 := by rcases ho with h | h <;> omega
  unfold fX1_openRows
  rw [c_holes hr ho, bd_some, lt_e, hr.1]
  have key := for_M (lp := fun fu i s => lpX1_openRows_21 μ R (bs (fun c => decide (μ (a + 1) c = 0)) (W * H)) ((1 : Int32) <<< (nI W &&& 31) - 1) fu s (nI i)) (M := fun r => nI (cnt (rowO (μ (a + 1)) W) r)) (fin := some (nI (cnt (rowO (μ (a + 1)) W) H))) H (by omega) ?_ ?_
  · have key : lpX1_openRows_21 μ R (bs (fun c => decide (μ (a + 1) c = 0)) (W * H)) ((1 : Int32) <<< (nI W &&& 31) - 1) 1000 0 0 = _ := key
    rw [key]; rfl
  · intro fu i hi
    have hle := rw_le (W := W) hi
    have e : (((bs (fun c => decide (μ (a + 1) c = 0)) (W * H)) >>> (nI (i * W) &&& 31)) &&& ((1 : Int32) <<< (nI W &&& 31) - 1) = (1 : Int32) <<< (nI W &&& 31) - 1) ↔ rowO (μ (a + 1)) W i = true := by
      rw [row_e hWH.1 (by omega), rowO, allB_t]
      constructor
      · intro h k hk
        have := h k hk
        rwa [bs_lo (by omega) (by omega)] at this
      · intro h k hk
        rw [bs_lo (by omega) (by omega)]
        exact h k hk
    rw [lpX1_openRows_21, hr.2.1, if_neg (nI_ge hi (by omega)), hr.1, pk_mul]
    simp only [lt_e, nI_1, e]
    show _ = lpX1_openRows_21 μ R _ _ fu (nI (cnt (rowO (μ (a + 1)) W) i + cond (rowO (μ (a + 1)) W i) 1 0)) _
    cases rowO (μ (a + 1)) W i
    · rfl
    · rfl
  · intro fu
    rw [lpX1_openRows_21, hr.2.1, if_pos (by exact nI_le (Nat.le_refl _) (by omega))]
theorem m_open {μ : ic_M} {x1 x2 : Int32} {W H S P : Nat} (hm : mR μ W H S P) (ho : rOK W H S P) : lpX9_tolls_28 μ x1 x2 1000 0 0 = some (nI (cnt (rowO (μ 98) W) H)) := by
  have hN := rOK_N ho
  have hWH : W < 7 ∧ H < 4 := by rcases ho with h | h <;> omega
  have key := for_M (lp := fun fu i s => lpX9_tolls_28 μ x1 x2 fu s (nI i)) (M := fun r => nI (cnt (rowO (μ 98) W) r)) (fin := some (nI (cnt (rowO (μ 98) W) H))) H (by omega) ?_ ?_
  · exact key
  · intro fu i hi
    have hle := rw_le (W := W) hi
    have inner : lpX9_tolls_45 μ x1 x2 (nI (cnt (rowO (μ 98) W) i)) (nI i) 1000 1 0 = some (bI (rowO (μ 98) W i)) := by
      have k2 := for_M (lp := fun fu k s => lpX9_tolls_45 μ x1 x2 (nI (cnt (rowO (μ 98) W) i)) (nI i) fu s (nI k)) (M := fun k => bI (allB (fun k => decide (μ 98 (i * W + k) = 0)) k)) (fin := some (bI (rowO (μ 98) W i))) W (by omega) ?_ ?_
      · exact k2
      · intro fu k hk
        rw [lpX9_tolls_45, show ic_ag μ 92 7 (0 : Int32) = ic_ag μ 92 7 (nI 0) from rfl, m_ag92 (by omega), hm.1, if_neg (nI_ge hk (by omega)), m_ag92 (by omega), hm.1, pk_mul, nI_add, ag_n (by omega) (by omega)]
        simp only [lt_e, nI_1, bI_0]
        show _ = lpX9_tolls_45 μ x1 x2 _ _ fu (bI (allB (fun k => decide (μ 98 (i * W + k) = 0)) k && decide (μ 98 (i * W + k) = 0))) _
        cases allB (fun k => decide (μ 98 (i * W + k) = 0)) k
        · rfl
        · by_cases h0 : μ 98 (i * W + k) = 0
          · simp [h0, bd_some, bI]
          · simp [h0, bd_some, bI]
      · intro fu
        rw [lpX9_tolls_45, show ic_ag μ 92 7 (0 : Int32) = ic_ag μ 92 7 (nI 0) from rfl, m_ag92 (by omega), hm.1, if_pos (by exact nI_le (Nat.le_refl _) (by omega))]
        rfl
    rw [lpX9_tolls_28, show ic_ag μ 92 7 (1 : Int32) = ic_ag μ 92 7 (nI 1) from rfl, m_ag92 (by omega), hm.2.1, if_neg (nI_ge hi (by omega)), inner, bd_some]
    simp only [lt_e, nI_1, bI_0]
    show _ = lpX9_tolls_28 μ x1 x2 fu (nI (cnt (rowO (μ 98) W) i + cond (rowO (μ 98) W i) 1 0)) _
    cases rowO (μ 98) W i
    · rw [if_pos rfl, bd_some, Int32.add_zero]; rfl
    · rw [if_neg (by simp), bd_some, nI_1]; rfl
  · intro fu
    rw [lpX9_tolls_28, show ic_ag μ 92 7 (1 : Int32) = ic_ag μ 92 7 (nI 1) from rfl, m_ag92 (by omega), hm.2.1, if_pos (by exact nI_le (Nat.le_refl _) (by omega))]
theorem rowO_congr {inc inc' : Nat → Int32} {W r : Nat} (h : ∀ k, k < W → inc (r * W + k) = inc' (r * W + k)) : rowO inc W r = rowO inc' W r := by
  unfold rowO
  apply Bool.eq_iff_iff.mpr
  rw [allB_t, allB_t]
  constructor
  · intro g k hk
    have := g k hk
    rwa [h k hk] at this
  · intro g k hk
    have := g k hk
    rwa [← h k hk] at this
theorem pu_tolls {sw : Nat} {μ : ic_M} (hI : ic_I sw μ) (a1 a2 : Int32) : ∃ (v : Int32), fX8_tolls sw μ a1 a2 = some v ∧ fX9_tolls μ a1 a2 = some v ∧ ic_I sw μ := by
  obtain ⟨W, H, S, P, h⟩ := id hI
  obtain ⟨ho, hr, hm, hl, -⟩ := h.1
  obtain ⟨hs, v1, v2, g1, g2, w1, w2⟩ := J_now h
  obtain ⟨⟨-, -, q1, q2, q3, q4⟩, -⟩ := h.2.2.2.2.1
  have hN := rOK_N ho
  apply pu_of hI
  unfold fX8_tolls fX9_tolls
  simp only [wi_e, in_e, bd_some]
  refine E2_ite (fun _ => E2_of rfl rfl) (fun _ => ?_)
  refine E2_ite (fun _ => E2_of rfl rfl) (fun _ => ?_)
  rw [c_open (a := 4) hr ho, m_open hm ho, bd_some, bd_some, show ic_ag μ 98 28 (25 : Int32) = ic_ag μ 98 28 (nI 25) from rfl, ag_n (by omega) (by omega), q2]
  rw [show cnt (rowO (μ (4 + 1)) W) H = cnt (rowO (μ 98) W) H from cnt_congr (fun r hr2 => rowO_congr (fun k hk => hs.1 _ (by have := rw_le (W := W) hr2; omega)))]
  by_cases h0 : μ 98 (0 + 25) = -1
  · rw [if_pos h0]; exact E2_of rfl rfl
  · rw [if_neg h0]; exact E2_of rfl rfl
/-! ===== heard ===== -/
theorem srch_none {f : Nat → Bool} : ∀ {n i : Nat}, srch f i n = none ↔ ∀ j, i ≤ j → j < i + n → f j = false
  | 0, i => by
    simp only [srch, true_iff]
    intro j h1 h2
    omega
  | n + 1, i => by
    show (if f i = true then some i else srch f (i + 1) n) = none ↔ _
    by_cases h : f i = true
    · rw [if_pos h]
      constructor
      · intro e; cases e
      · intro g
        rw [g i (Nat.le_refl _) (by omega)] at h; cases h
    · rw [if_neg h, srch_none]
      constructor
      · intro g j h1 h2
        by_cases e : j = i
        · subst e; simpa using h
        · exact g j (by omega) (by omega)
      · intro g j h1 h2
        exact g j (by omega) (by omega)
theorem srch_ext {f : Nat → Bool} : ∀ {n i : Nat} (m : Nat), (∀ j, i + n ≤ j → f j = false) → srch f i (n + m) = srch f i n
  | 0, i, m, h => by
    rw [Nat.zero_add]
    exact srch_none.mpr (fun j h1 _ => h j (by omega))
  | n + 1, i, m, h => by
    rw [show n + 1 + m = (n + m) + 1 by omega]
    show (if f i = true then some i else srch f (i + 1) (n + m)) = (if f i = true then some i else srch f (i + 1) n)
    rw [srch_ext m (fun j hj => h j (by omega))]
theorem c_leastIn (μ : ic_M) {f : Nat → Bool} {n : Nat} (hn : n ≤ 31) : fX8_leastIn μ (bs f n) = some (srV (srch f 0 n)) := by
  unfold fX8_leastIn
  have k1 : lpX8_leastIn_2 μ (bs f n) 1000 0 = _ := srch_e (lp := fun fu i => lpX8_leastIn_2 μ (bs f n) fu (nI i)) (N := 31) (f := fun j => decide (j < n) && f j) ?_ ?_ 31 0 1000 (by omega) (by omega)
  · rw [k1, bd_some, srV_e]
    congr 2
    obtain ⟨m, hm⟩ : ∃ m, 31 = n + m := ⟨31 - n, by omega⟩
    rw [hm, srch_ext m (fun j hj => by simp [show ¬ j < n by omega])]
    exact srch_congr (fun j _ hj => by simp [show j < n by omega])
  · intro fu i hi
    rw [lpX8_leastIn_2, if_neg (show ¬ (31 : Int32) ≤ nI i from nI_ge (b := 31) hi (by omega)), isIn_e μ hi, bd_some, bs_bt hn (by omega)]
    simp only [lt_e, nI_1, bI_0]
    cases (decide (i < n) && f i) <;> simp
  · intro fu
    rw [lpX8_leastIn_2, if_pos (by decide)]
/-- cells next to one of g -/
def nxt (W N : Nat) (g : Nat → Bool) (o : Nat) : Bool := anyB (fun k => g k && adj W o k) N
theorem c_nextAny {μ : ic_M} {R W H S P : Nat} {g : Nat → Bool} (hr : cR μ R W H S P) (ho : rOK W H S P) : fX5_nextToAny μ R (bs g (W * H)) = some (bs (nxt W (W * H) g) (W * H)) := by
  have hN := rOK_N ho
  unfold fX5_nextToAny
  have key := for_M (lp := fun fu i s => lpX5_nextToAny_4 μ R (bs g (W * H)) fu s (nI i)) (M := fun k => bs (fun o => anyB (fun k => g k && adj W o k) k) (W * H)) (fin := some (bs (nxt W (W * H) g) (W * H))) (W * H) (by omega) ?_ ?_
  · have e0 : bs (fun o => anyB (fun k => g k && adj W o k) 0) (W * H) = 0 := (bs_zero (by omega)).mpr (fun _ _ => rfl)
    simp only [e0] at key
    have key : lpX5_nextToAny_4 μ R (bs g (W * H)) 1000 0 0 = _ := key
    rw [key]; rfl
  · intro fu i hi
    rw [lpX5_nextToAny_4, hr.2.2.2.1, if_neg (nI_ge hi (by omega)), isIn_e μ (by omega), bd_some, bs_lo (by omega) hi, c_next hr (rOK_y ho hi) hi]
    simp only [lt_e, nI_1, bI_0, bd_some]
    show _ = lpX5_nextToAny_4 μ R _ fu (bs (fun o => anyB (fun k => g k && adj W o k) i || (g i && adj W o i)) (W * H)) _
    cases hg : g i
    · simp only [if_true, bd_some, Bool.false_and, Bool.or_false]
    · simp only [Bool.true_and, bd_some]
      rw [if_neg (by simp), bd_some, nbs, bs_or (by omega)]
  · intro fu
    rw [lpX5_nextToAny_4, hr.2.2.2.1, if_pos (by exact nI_le (Nat.le_refl _) (by omega))]
    rfl
/-- one round farther, over cells with inches -/
def grw (W N : Nat) (inc : Nat → Int32) (g : Nat → Bool) (o : Nat) : Bool := g o || (nxt W N g o && decide (¬ inc o = 0))
/-- the nearest crack within n rounds -/
def hrd (W N : Nat) (inc : Nat → Int32) (ck : Nat → Bool) : Nat → (Nat → Bool) → Option Nat
  | 0, _ => none
  | n + 1, g => match srch (fun k => g k && ck k) 0 N with
    | some k => some k
    | none => hrd W N inc ck n (grw W N inc g)
theorem hrd_none {W N : Nat} {inc : Nat → Int32} {ck : Nat → Bool} : ∀ {n : Nat} {g : Nat → Bool}, (∀ k, k < N → g k = false) → (∀ k, g k = false) → hrd W N inc ck n g = none
  | 0, _, _, _ => rfl
  | n + 1, g, h, h2 => by
    have e : srch (fun k => g k && ck k) 0 N = none := srch_none.mpr (fun j _ _ => by simp [h2 j])
    have e2 : ∀ k, grw W N inc g k = false := fun k => by
      unfold grw nxt
      rw [h2 k, anyB_f (fun j _ => by simp [h2 j])]; rfl
    unfold hrd
    rw [e]
    exact hrd_none (fun k _ => e2 k) e2
theorem hrd_congr {W N : Nat} {inc inc' : Nat → Int32} {ck ck' : Nat → Bool} (h1 : ∀ c, c < N → inc c = inc' c) (h2 : ∀ c, c < N → ck c = ck' c) : ∀ {n : Nat} {g g' : Nat → Bool}, (∀ k, k < N → g k = g' k) → hrd W N inc ck n g = hrd W N inc' ck' n g'
  | 0, _, _, _ => rfl
  | n + 1, g, g', h => by
    have e : srch (fun k => g k && ck k) 0 N = srch (fun k => g' k && ck' k) 0 N := srch_congr (fun j _ hj => by rw [h j (by omega), h2 j (by omega)])
    have e2 : ∀ k, k < N → grw W N inc g k = grw W N inc' g' k := fun k hk => by
      unfold grw nxt
      rw [h k hk, h1 k hk, anyB_congr (fun j hj => by rw [h j hj])]
    unfold hrd
    rw [e]
    cases srch (fun k => g' k && ck' k) 0 N with
    | none => exact hrd_congr h1 h2 e2
    | some k => rfl
theorem c_heardL {μ : ic_M} {a R W H S P : Nat} {ck : Nat → Bool} (hr : cR μ R W H S P) (ho : rOK W H S P) : ∀ (n fu : Nat) (g : Nat → Bool), n ≤ 4 → n < fu → lpX7_nearestCrack_34 μ R (bs (fun c => decide (μ (a + 1) c = 0)) (W * H) ^^^ (-1)) (bs ck (W * H)) fu (bs g (W * H)) (nI (4 - n)) = some (srO (hrd W (W * H) (μ (a + 1)) ck n g)) := by
  have hN := rOK_N ho
  intro n
  induction n with
  | zero =>
    intro fu g _ hfu
    cases fu with
    | zero => omega
    | succ fu =>
      rw [lpX7_nearestCrack_34, if_pos (by decide)]; rfl
  | succ n ih =>
    intro fu g hn hfu
    cases fu with
    | zero => omega
    | succ fu =>
      rw [lpX7_nearestCrack_34, if_neg (show ¬ (3 : Int32) < nI (4 - (n + 1)) from nI_nlt (b := 4 - (n + 1)) (a := 3) (by omega) (by omega)), bs_and (by omega), c_nextAny hr ho, c_leastIn μ (by omega)]
      simp only [lt_e, bd_some, nI_1]
      unfold hrd
      by_cases hz : ∀ k, k < W * H → (g k && ck k) = false
      · rw [if_pos ((bs_zero (by omega)).mpr hz), srch_none.mpr (fun j _ hj => hz j (by omega))]
        rw [bs_not (by omega) (fun k h1 h2 => bs_hi (by omega) h1 h2), bs_or (by omega), show 4 - (n + 1) + 1 = 4 - n by omega]
        rw [bs_congr (f := fun k => g k || (bt (bs (nxt W (W * H) g) (W * H)) k && !decide (μ (a + 1) k = 0))) (g := grw W (W * H) (μ (a + 1)) g) (fun k hk => by rw [bs_lo (by omega) hk]; unfold grw; simp)]
        exact ih fu _ (by omega) (by omega)
      · rw [if_neg (fun e => hz ((bs_zero (by omega)).mp e))]
        cases hs : srch (fun k => g k && ck k) 0 (W * H) with
        | none => exact absurd (fun k hk => srch_none.mp hs k (by omega) (by omega)) hz
        | some k => rfl
theorem m_heardI {μ : ic_M} {x3 : Int32} {W H S P k : Nat} {g : Nat → Bool} {y0 : Int32} (hm : mR μ W H S P) (ho : rOK W H S P) (hg : gI (μ 98)) (hk : k < W * H) : lpX9_heard_78 μ (bs g (W * H)) x3 (nI k) 1000 y0 0 = some (y0 ||| bs (fun o => g k && (adj W o k && decide (¬ μ 98 o = 0))) (W * H)) := by
  have hN := rOK_N ho
  have key := for_M (lp := fun fu i s => lpX9_heard_78 μ (bs g (W * H)) x3 (nI k) fu s (nI i)) (M := fun i => y0 ||| bs (fun o => g k && (adj W o k && decide (¬ μ 98 o = 0))) i) (fin := some (y0 ||| bs (fun o => g k && (adj W o k && decide (¬ μ 98 o = 0))) (W * H))) (W * H) (by omega) ?_ ?_
  · simp only [bs_0, Int32.or_zero] at key
    exact key
  · intro fu i hi
    rw [lpX9_heard_78, m_cells hm, bd_some, if_neg (nI_ge hi (by omega)), has_e _ (by omega), bd_some, bs_lo (by omega) hk, ag_n (by omega) (by omega), m_next hm (rOK_y ho hk) (by omega) (by omega)]
    simp only [lt_e, nI_1, bI_0, bd_some, gI_le hg (show i < 18 by omega)]
    rw [bs_succ, adj_comm W k i, ← Int32.or_assoc]
    cases g k
    · rfl
    · by_cases h0 : μ 98 i = 0
      · simp [h0, bd_some]
      · cases adj W i k
        · simp [h0, bd_some]
        · simp [h0, bd_some]
  · intro fu
    rw [lpX9_heard_78, m_cells hm, bd_some, if_pos (by exact nI_le (Nat.le_refl _) (by omega))]
def srS {σ : Type} (o : Option Nat) (s : σ) : σ ⊕ Int32 := match o with
  | none => .inl s
  | some j => .inr (nI j)
theorem srchS_e {σ : Type} {lp : Nat → Nat → σ → Option (σ ⊕ Int32)} {f : Nat → Bool} {M : Nat → σ} {N : Nat} (hs : ∀ fu i, i < N → lp (fu + 1) i (M i) = if f i = true then some (.inr (nI i)) else lp fu (i + 1) (M (i + 1))) (hx : ∀ fu, lp (fu + 1) N (M N) = some (.inl (M N))) : ∀ n i fu, i + n = N → n < fu → lp fu i (M i) = some (srS (srch f i n) (M N)) := by
  intro n
  induction n with
  | zero =>
    intro i fu hi hfu
    have : i = N := by omega
    subst this
    cases fu with
    | zero => omega
    | succ fu => rw [hx fu]; rfl
  | succ n ih =>
    intro i fu hi hfu
    cases fu with
    | zero => omega
    | succ fu =>
      rw [hs fu i (by omega)]
      show _ = some (srS (if f i = true then some i else srch f (i + 1) n) (M N))
      by_cases h : f i = true
      · rw [if_pos h, if_pos h]; rfl
      · rw [if_neg h, if_neg h]
        exact ih (i + 1) fu (by omega) (by omega)
theorem m_heardR {μ : ic_M} {x3 : Int32} {W H S P : Nat} {g ck : Nat → Bool} (hm : mR μ W H S P) (ho : rOK W H S P) (hg : gI (μ 98)) (hck : ∀ c, c < W * H → fX9_cracks μ 98 (nI c) = some (bI (ck c))) : lpX9_heard_41 μ (bs g (W * H)) x3 1000 (bs g (W * H)) 0 = some (srS (srch (fun k => g k && ck k) 0 (W * H)) (bs (grw W (W * H) (μ 98) g) (W * H))) := by
  have hN := rOK_N ho
  have key := srchS_e (lp := fun fu i s => lpX9_heard_41 μ (bs g (W * H)) x3 fu s (nI i)) (f := fun k => g k && ck k) (M := fun k => bs (fun o => g o || anyB (fun k => g k && (adj W o k && decide (¬ μ 98 o = 0))) k) (W * H)) (N := W * H) ?_ ?_ (W * H) 0 1000 (by omega) (by omega)
  · simp only [anyB, Bool.or_false] at key
    have key : lpX9_heard_41 μ (bs g (W * H)) x3 1000 (bs g (W * H)) 0 = _ := key
    rw [key]
    congr 2
    apply bs_congr
    intro o ho2
    unfold grw nxt
    congr 1
    cases hd : decide (¬ μ 98 o = 0)
    · simp only [Bool.and_false]
      exact anyB_f (fun _ _ => rfl)
    · simp only [Bool.and_true]
  · intro fu i hi
    rw [lpX9_heard_41, m_cells hm, bd_some, if_neg (nI_ge hi (by omega)), has_e _ (by omega), bd_some, bs_lo (by omega) hi, hck i hi, m_heardI hm ho hg hi, bs_or (by omega)]
    simp only [lt_e, nI_1, bI_0, bd_some]
    have e : bs (fun k => (g k || anyB (fun k_1 => g k_1 && (adj W k k_1 && decide (¬ μ 98 k = 0))) i) || g i && (adj W k i && decide (¬ μ 98 k = 0))) (W * H) = bs (fun o => g o || anyB (fun k => g k && (adj W o k && decide (¬ μ 98 o = 0))) (i + 1)) (W * H) := bs_congr (fun o _ => by
      show _ = (g o || (anyB (fun k => g k && (adj W o k && decide (¬ μ 98 o = 0))) i || (g i && (adj W o i && decide (¬ μ 98 o = 0)))))
      rw [Bool.or_assoc])
    rw [e]
    cases hgi : g i
    · simp
    · cases ck i <;> simp
  · intro fu
    rw [lpX9_heard_41, m_cells hm, bd_some, if_pos (by exact nI_le (Nat.le_refl _) (by omega))]
theorem m_heardL {μ : ic_M} {W H S P : Nat} {ck : Nat → Bool} (hm : mR μ W H S P) (ho : rOK W H S P) (hg : gI (μ 98)) (hck : ∀ c, c < W * H → fX9_cracks μ 98 (nI c) = some (bI (ck c))) : ∀ (n fu : Nat) (g : Nat → Bool), n ≤ 4 → n < fu → lpX9_heard_30 μ fu (bs g (W * H)) (nI (4 - n)) = some (srO (hrd W (W * H) (μ 98) ck n g)) := by
  intro n
  induction n with
  | zero =>
    intro fu g _ hfu
    cases fu with
    | zero => omega
    | succ fu =>
      rw [lpX9_heard_30, if_pos (by decide)]; rfl
  | succ n ih =>
    intro fu g hn hfu
    cases fu with
    | zero => omega
    | succ fu =>
      rw [lpX9_heard_30, if_neg (show ¬ (4 : Int32) ≤ nI (4 - (n + 1)) from nI_ge (b := 4) (a := 4 - (n + 1)) (by omega) (by omega)), m_heardR hm ho hg hck, bd_some]
      unfold hrd
      cases srch (fun k => g k && ck k) 0 (W * H) with
      | none =>
        simp only [srS, Sum.elim_inl, lt_e, nI_1]
        rw [show 4 - (n + 1) + 1 = 4 - n by omega]
        exact ih fu _ (by omega) (by omega)
      | some k => rfl
theorem pu_heard {sw : Nat} {μ : ic_M} (hI : ic_I sw μ) (a1 : Int32) : ∃ (v : Int32), fX8_heard sw μ a1 = some v ∧ fX9_heard μ a1 = some v ∧ ic_I sw μ := by
  obtain ⟨W, H, S, P, h⟩ := id hI
  obtain ⟨ho, hr, hm, hl, -⟩ := h.1
  obtain ⟨hs, v1, v2, g1, g2, w1, w2⟩ := J_now h
  have hN := rOK_N ho
  have hP := rOK_P ho
  apply pu_of hI
  unfold fX8_heard fX9_heard
  rw [c_isCell hr.2.2.2.1, bd_some, m_isCell hm ho, bd_some]
  by_cases hc : bI (isC (W * H) a1) = 0
  · rw [if_pos hc, if_pos hc]; exact E2_of rfl rfl
  rw [if_neg hc, if_neg hc]
  obtain ⟨c, hcN, rfl⟩ := isC_f (by omega) hc
  unfold fX7_nearestCrack
  rw [c_hole (by omega), bd_some, hs.1 c (by omega), ag_n (by omega) (by omega)]
  simp only [gI_le g1 (show c < 18 by omega)]
  have hck : ∀ c, c < W * H → fX9_cracks μ 98 (nI c) = some (bI (crk W (W * H) P S (fun p => μ 94 (2 * p + 1)) (fun p => μ 98 (18 + p)) (μ 98) c)) := fun c hc => m_cracks rfl hm ho hc v2
  by_cases h0 : μ 98 c = 0
  · have km : lpX9_heard_30 μ 1000 0 0 = some (.inl ()) := by
      have := m_heardL hm ho g1 hck 4 1000 (fun _ => false) (by omega) (by omega)
      rw [(bs_zero (by omega)).mpr (fun _ _ => rfl), hrd_none (fun _ _ => rfl) (fun _ => rfl)] at this
      exact this
    refine E2_of (v := -1) (by simp [h0, bI, bd_some]) ?_
    rw [if_pos h0, bd_some, km]; rfl
  · have kc := c_heardL (a := 4) (ck := crk W (W * H) P S (μ (ic_ld sw + 5)) (μ (4 + 2)) (μ (4 + 1))) hr ho 4 1000 (fun k => decide (k = c)) (by omega) (by omega)
    have km := m_heardL hm ho g1 hck 4 1000 (fun k => decide (k = c)) (by omega) (by omega)
    have kc : lpX7_nearestCrack_34 μ (ic_ld sw) (bs (fun c => decide (μ (4 + 1) c = 0)) (W * H) ^^^ (-1)) (bs (crk W (W * H) P S (μ (ic_ld sw + 5)) (μ (4 + 2)) (μ (4 + 1))) (W * H)) 1000 (bs (fun k => decide (k = c)) (W * H)) 0 = _ := kc
    have km : lpX9_heard_30 μ 1000 (bs (fun k => decide (k = c)) (W * H)) 0 = _ := km
    have e : hrd W (W * H) (μ (4 + 1)) (crk W (W * H) P S (μ (ic_ld sw + 5)) (μ (4 + 2)) (μ (4 + 1))) 4 (fun k => decide (k = c)) = hrd W (W * H) (μ 98) (crk W (W * H) P S (fun p => μ 94 (2 * p + 1)) (fun p => μ 98 (18 + p)) (μ 98)) 4 (fun k => decide (k = c)) := hrd_congr (fun k hk => hs.1 k (by omega)) (fun k hk => crk_same hs hP (by omega)) (fun _ _ => rfl)
    rw [e] at kc
    rw [if_neg h0, bd_some, bs_one hcN (by omega), km, c_holes hr ho, bd_some, lt_e, c_crack hr ho v1, bd_some, lt_e, kc]
    simp only [bd_some, srV_e, h0, decide_false, bI_f, if_true]
    exact E2_of rfl rfl
