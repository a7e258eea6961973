/-! ===== breaking, drowning ===== -/
/-- some places of a row are put, those below i of which f holds -/
def pm (μ : ic_M) (R off : Nat) (f : Nat → Bool) (v : Nat → Int32) (i : Nat) : ic_M := fun b k => if b = R ∧ off ≤ k ∧ k < off + i ∧ f (k - off) = true then v (k - off) else μ b k
theorem pm_0 (μ : ic_M) (R off : Nat) (f : Nat → Bool) (v : Nat → Int32) : pm μ R off f v 0 = μ := by
  funext b k
  unfold pm
  rw [if_neg (by omega)]
theorem pm_t {μ : ic_M} {R off : Nat} {f : Nat → Bool} {v : Nat → Int32} {i : Nat} (h : f i = true) : ic_up (pm μ R off f v i) R (off + i) (v i) = pm μ R off f v (i + 1) := by
  funext b k
  unfold ic_up pm
  by_cases hb : b = R
  · by_cases hk : k = off + i
    · subst hk
      rw [if_pos ⟨hb, rfl⟩, if_pos ⟨hb, by omega, by omega, by rw [Nat.add_sub_cancel_left]; exact h⟩, Nat.add_sub_cancel_left]
    · rw [if_neg (fun h => hk h.2)]
      have e : (b = R ∧ off ≤ k ∧ k < off + i ∧ f (k - off) = true) ↔ (b = R ∧ off ≤ k ∧ k < off + (i + 1) ∧ f (k - off) = true) := by
        constructor
        · rintro ⟨h1, h2, h3, h4⟩; exact ⟨h1, h2, by omega, h4⟩
        · rintro ⟨h1, h2, h3, h4⟩; exact ⟨h1, h2, by omega, h4⟩
      simp only [e]
  · rw [if_neg (fun h => hb h.1), if_neg (fun h => hb h.1), if_neg (fun h => hb h.1)]
theorem pm_f {μ : ic_M} {R off : Nat} {f : Nat → Bool} {v : Nat → Int32} {i : Nat} (h : f i = false) : pm μ R off f v i = pm μ R off f v (i + 1) := by
  funext b k
  unfold pm
  have e : (b = R ∧ off ≤ k ∧ k < off + i ∧ f (k - off) = true) ↔ (b = R ∧ off ≤ k ∧ k < off + (i + 1) ∧ f (k - off) = true) := by
    constructor
    · rintro ⟨h1, h2, h3, h4⟩; exact ⟨h1, h2, by omega, h4⟩
    · rintro ⟨h1, h2, h3, h4⟩
      refine ⟨h1, h2, ?_, h4⟩
      rcases Nat.lt_or_ge k (off + i) with h5 | h5
      · exact h5
      · have : k - off = i := by omega
        rw [this, h] at h4; cases h4
  simp only [e]
theorem pm_ne {μ : ic_M} {R off i b : Nat} {f : Nat → Bool} {v : Nat → Int32} (h : b ≠ R) (k : Nat) : pm μ R off f v i b k = μ b k := by
  unfold pm
  rw [if_neg (fun e => h e.1)]
theorem pm_ge {μ : ic_M} {R off i k : Nat} {f : Nat → Bool} {v : Nat → Int32} (h : k < off ∨ off + i ≤ k) : pm μ R off f v i R k = μ R k := by
  unfold pm
  rw [if_neg (by omega)]
theorem pm_in {μ : ic_M} {R off i j : Nat} {f : Nat → Bool} {v : Nat → Int32} (h : j < i) : pm μ R off f v i R (off + j) = if f j = true then v j else μ R (off + j) := by
  unfold pm
  rw [Nat.add_sub_cancel_left]
  by_cases hf : f j = true
  · rw [if_pos ⟨rfl, by omega, by omega, hf⟩, if_pos hf]
  · rw [if_neg (fun e => hf e.2.2.2), if_neg hf]
theorem pm_in0 {μ : ic_M} {R i j : Nat} {f : Nat → Bool} {v : Nat → Int32} (h : j < i) : pm μ R 0 f v i R j = if f j = true then v j else μ R j := by
  have := pm_in (μ := μ) (R := R) (off := 0) (f := f) (v := v) h
  rwa [Nat.zero_add] at this
theorem pm_congr {μ : ic_M} {R off i : Nat} {f g : Nat → Bool} {v w : Nat → Int32} (h : ∀ j, j < i → f j = g j ∧ v j = w j) : pm μ R off f v i = pm μ R off g w i := by
  funext b k
  unfold pm
  by_cases hk : b = R ∧ off ≤ k ∧ k < off + i
  · obtain ⟨h1, h2, h3⟩ := hk
    have := h (k - off) (by omega)
    simp only [h1, h2, h3, this.1, this.2, true_and]
  · have e1 : ¬ (b = R ∧ off ≤ k ∧ k < off + i ∧ f (k - off) = true) := fun e => hk ⟨e.1, e.2.1, e.2.2.1⟩
    have e2 : ¬ (b = R ∧ off ≤ k ∧ k < off + i ∧ g (k - off) = true) := fun e => hk ⟨e.1, e.2.1, e.2.2.1⟩
    rw [if_neg e1, if_neg e2]
/-- a loop whose states are known -/
theorem for_M {σ τ : Type} {lp : Nat → Nat → σ → Option τ} {M : Nat → σ} {fin : Option τ} (N : Nat) (hN : N < 1000) (hs : ∀ fu i, i < N → lp (fu + 1) i (M i) = lp fu (i + 1) (M (i + 1))) (hx : ∀ fu, lp (fu + 1) N (M N) = fin) : lp 1000 0 (M 0) = fin := by
  have key : ∀ n fu i, i + n = N → n < fu → lp fu i (M i) = fin := by
    intro n
    induction n with
    | zero =>
      intro fu i hi hfu
      have : i = N := by omega
      subst this
      cases fu with
      | zero => omega
      | succ fu => exact hx fu
    | succ n ih =>
      intro fu i hi hfu
      cases fu with
      | zero => omega
      | succ fu =>
        rw [hs fu i (by omega)]
        exact ih fu (i + 1) (by omega) (by omega)
  exact key N 1000 0 (by omega) hN
/-- is y in the set x -/
def inS (x y : Int32) : Bool := decide (¬ y < 0) && decide (y.toNatClampNeg < 31) && bt x y.toNatClampNeg
theorem c_isIn (μ : ic_M) (x y : Int32) : fX8_isIn μ x y = some (bI (inS x y)) := by
  by_cases h : y < 0
  · rw [isIn_neg μ h]; simp [inS, h, bI]
  · obtain ⟨k, hk, rfl⟩ := nI_of h
    by_cases h31 : k < 31
    · rw [isIn_e μ h31]
      simp [inS, h, nI_clamp hk, h31]
    · unfold fX8_isIn
      rw [if_neg h, if_pos (show (31 : Int32) ≤ nI k from nI_le (a := 31) (by omega) hk), bd_some, rz_0]
      simp [inS, nI_clamp hk, h31, bI]
theorem inS_n {x : Int32} {k : Nat} (h : k < 31) : inS x (nI k) = bt x k := by
  simp [inS, nI_pos (show k < 2 ^ 31 by omega), nI_clamp (show k < 2 ^ 31 by omega), h]
theorem inS_neg {x y : Int32} (h : y < 0) : inS x y = false := by simp [inS, h]
theorem c_drownOn {μ : ic_M} {a r P : Nat} {x : Int32} (har : a + 2 < r) (hr : μ r 12 = nI P) (hP : P ≤ 6) : fX1_drownOn μ a r x = some (pm μ (a + 2) 0 (fun p => inS x (μ (a + 2) p)) (fun _ => -2) P) := by
  unfold fX1_drownOn
  have key := for_M (lp := fun fu i m => lpX1_drownOn_2 a r x fu (nI i) m) (M := pm μ (a + 2) 0 (fun p => inS x (μ (a + 2) p)) (fun _ => -2)) (fin := some (pm μ (a + 2) 0 (fun p => inS x (μ (a + 2) p)) (fun _ => -2) P)) P (by omega) ?_ ?_
  · rw [pm_0] at key
    have key : lpX1_drownOn_2 a r x 1000 0 μ = _ := key
    rw [key]; rfl
  · intro fu i hi
    rw [lpX1_drownOn_2, pm_ne (by omega), hr, if_neg (nI_ge hi (by omega)), c_place (by omega), pm_ge (by omega), bd_some, c_isIn, bd_some, c_putP (by omega)]
    simp only [lt_e, bd_some, bI_0, show nI i + 1 = nI (i + 1) from nI_1 i]
    cases hf : inS x (μ (a + 2) i)
    · rw [if_pos rfl, bd_some, pm_f (i := i) hf]
    · rw [if_neg (by simp), bd_some, ← pm_t (i := i) hf, Nat.zero_add]
  · intro fu
    rw [lpX1_drownOn_2, pm_ne (by omega), hr, if_pos (by exact nI_le (Nat.le_refl _) (by omega))]
theorem c_zero {μ : ic_M} {a r N : Nat} {x y2 y3 : Int32} (har : a + 2 < r) (hr : μ r 11 = nI N) (hN : N ≤ 18) : lpX1_breakOn_30 a r y2 y3 x 1000 0 μ = some (pm μ (a + 1) 0 (bt x) (fun _ => 0) N) := by
  have key := for_M (lp := fun fu i m => lpX1_breakOn_30 a r y2 y3 x fu (nI i) m) (M := pm μ (a + 1) 0 (bt x) (fun _ => 0)) (fin := some (pm μ (a + 1) 0 (bt x) (fun _ => 0) N)) N (by omega) ?_ ?_
  · rw [pm_0] at key
    exact key
  · intro fu i hi
    rw [lpX1_breakOn_30, pm_ne (by omega), hr, if_neg (nI_ge hi (by omega)), isIn_e _ (by omega), bd_some, c_setI (by omega)]
    simp only [lt_e, bd_some, bI_0, show nI i + 1 = nI (i + 1) from nI_1 i]
    cases hf : bt x i
    · rw [if_pos rfl, bd_some, pm_f (i := i) hf]
    · rw [if_neg (by simp), bd_some, ← pm_t (i := i) hf, Nat.zero_add]
  · intro fu
    rw [lpX1_breakOn_30, pm_ne (by omega), hr, if_pos (by exact nI_le (Nat.le_refl _) (by omega))]
