/-! ===== numbers, arrays, answers of yes and no ===== -/
theorem bd_some {α β : Type} (a : α) (f : α → Option β) : Option.bind (some a) f = f a := rfl
theorem lt_e {α : Type} (x : Int32) (T : Int32 → Option α) : ic_lt x T = T x := rfl
theorem pu_e {α : Type} (μ : ic_M) (r k : Nat) (v : Int32) (T : ic_M → Option α) : ic_pu μ r k v T = T (ic_up μ r k v) := rfl
def bI (b : Bool) : Int32 := cond b 1 0
theorem bI_t : bI true = 1 := rfl
theorem bI_f : bI false = 0 := rfl
theorem bI_0 (b : Bool) : (bI b = 0) = (b = false) := by cases b <;> simp [bI] <;> decide
theorem bI_1 (b : Bool) : (bI b = 1) = (b = true) := by cases b <;> simp [bI] <;> decide
theorem rz_b {α : Type} (b : Bool) (T : Option α) : ic_rz (bI b) T = T := by
  cases b
  · exact if_pos (Or.inl rfl)
  · exact if_pos (Or.inr rfl)
theorem rz_0 {α : Type} (T : Option α) : ic_rz 0 T = T := rz_b false T
theorem rz_1 {α : Type} (T : Option α) : ic_rz 1 T = T := rz_b true T
/-- within bounds -/
def wi (x a b : Int32) : Bool := decide (¬ x < a) && decide (¬ b < x)
theorem in_e (μ : ic_M) (x a b : Int32) : fX9_in μ x a b = some (bI (wi x a b)) := by
  unfold fX9_in wi
  by_cases h1 : x < a
  · simp [h1, bd_some, rz_0, bI]
  · by_cases h2 : b < x
    · simp [h1, h2, bd_some, rz_0, bI]
    · simp [h1, h2, bd_some, rz_1, bI]
theorem wi_e (μ : ic_M) (x a b : Int32) : fX8_isWithin μ x a b = some (bI (wi x a b)) := in_e μ x a b
theorem wi_n {x : Int32} {a b : Nat} (hab : a ≤ b) (hb : b < 2 ^ 31) : wi x (nI a) (nI b) = true ↔ ∃ k, a ≤ k ∧ k ≤ b ∧ x = nI k := by
  unfold wi
  simp only [Bool.and_eq_true, decide_eq_true_eq]
  constructor
  · rintro ⟨h1, h2⟩
    rw [Int32.lt_iff_toInt_lt, nI_toInt (by omega)] at h1
    rw [Int32.lt_iff_toInt_lt, nI_toInt hb] at h2
    by_cases h0 : x < 0
    · rw [Int32.lt_iff_toInt_lt, Int32.toInt_zero] at h0
      omega
    · obtain ⟨j, hj, rfl⟩ := nI_of h0
      rw [nI_toInt hj] at h1 h2
      exact ⟨j, by omega, by omega, rfl⟩
  · rintro ⟨k, h1, h2, rfl⟩
    exact ⟨nI_nlt h1 (by omega), nI_nlt h2 hb⟩
theorem nI_n {k : Nat} : (nI k).toNatClampNeg = k ∨ 2 ^ 31 ≤ k := by
  rcases Nat.lt_or_ge k (2 ^ 31) with h | h
  · exact Or.inl (nI_clamp h)
  · exact Or.inr h
section AG
variable {α : Type} {μ : ic_M} {r N k : Nat}
theorem ag_n {T : Int32 → Option α} (h : k < N) (hN : N ≤ 1000) : ic_ag μ r N (nI k) T = T (μ r k) := by
  rw [ic_ag, if_neg, nI_clamp (by omega)]
  rw [nI_clamp (by omega)]
  rintro (h1 | h1)
  · exact nI_pos (by omega) h1
  · omega
theorem as_n {v : Int32} {T : ic_M → Option α} (h : k < N) (hN : N ≤ 1000) : ic_as μ r N (nI k) v T = T (ic_up μ r k v) := by
  rw [ic_as, if_neg, nI_clamp (by omega)]
  rw [nI_clamp (by omega)]
  rintro (h1 | h1)
  · exact nI_pos (by omega) h1
  · omega
theorem az_n {v : Int32} {T : ic_M → Option α} (h : k < N) (hN : N ≤ 1000) (hv : v = 0 ∨ v = 1) : ic_az μ r N (nI k) v T = T (ic_up μ r k v) := by
  rw [ic_az, if_neg, if_pos hv, nI_clamp (by omega)]
  rw [nI_clamp (by omega)]
  rintro (h1 | h1)
  · exact nI_pos (by omega) h1
  · omega
end AG
/-- a loop that counts: at each step the state moves, at the end it is given out -/
def itr {σ : Type} (g : Nat → σ → σ) : Nat → Nat → σ → σ
  | _, 0, s => s
  | i, n + 1, s => itr g (i + 1) n (g i s)
theorem itr_inv {σ : Type} {g : Nat → σ → σ} {I : Nat → σ → Prop} : ∀ (n i : Nat) (s : σ), (∀ j s, i ≤ j → j < i + n → I j s → I (j + 1) (g j s)) → I i s → I (i + n) (itr g i n s)
  | 0, i, s, _, h => h
  | n + 1, i, s, hs, h => by
    have := itr_inv n (i + 1) (g i s) (fun j s h1 h2 => hs j s (by omega) (by omega)) (hs i s (Nat.le_refl _) (by omega) h)
    rw [show i + (n + 1) = i + 1 + n by omega]
    exact this
theorem itr_succ {σ : Type} {g : Nat → σ → σ} : ∀ (n i : Nat) (s : σ), itr g i (n + 1) s = g (i + n) (itr g i n s)
  | 0, i, s => rfl
  | n + 1, i, s => by
    show itr g (i + 1) (n + 1) (g i s) = _
    rw [itr_succ n (i + 1) (g i s), show i + 1 + n = i + (n + 1) by omega]
    rfl
theorem itr_congr {σ : Type} {g h : Nat → σ → σ} : ∀ (n i : Nat) (s : σ), (∀ j s, i ≤ j → j < i + n → g j s = h j s) → itr g i n s = itr h i n s
  | 0, i, s, _ => rfl
  | n + 1, i, s, hs => by
    show itr g (i + 1) n (g i s) = itr h (i + 1) n (h i s)
    rw [hs i s (Nat.le_refl _) (by omega)]
    exact itr_congr n (i + 1) _ (fun j s h1 h2 => hs j s (by omega) (by omega))
theorem for_e {σ τ : Type} {lp : Nat → Nat → σ → Option τ} {fin : σ → Option τ} {g : Nat → σ → σ} (N : Nat) (I : Nat → σ → Prop)
    (hs : ∀ fu i s, i < N → I i s → lp (fu + 1) i s = lp fu (i + 1) (g i s)) (hI : ∀ i s, i < N → I i s → I (i + 1) (g i s)) (hx : ∀ fu s, I N s → lp (fu + 1) N s = fin s) :
    ∀ (n fu i : Nat) (s : σ), i + n = N → n < fu → I i s → lp fu i s = fin (itr g i n s) := by
  intro n
  induction n with
  | zero =>
    intro fu i s hin hfu h
    have : i = N := by omega
    subst this
    cases fu with
    | zero => omega
    | succ fu => exact hx fu s h
  | succ n ih =>
    intro fu i s hin hfu h
    cases fu with
    | zero => omega
    | succ fu =>
      rw [hs fu i s (by omega) h, ih fu (i + 1) (g i s) (by omega) (by omega) (hI i s (by omega) h)]
      rfl
