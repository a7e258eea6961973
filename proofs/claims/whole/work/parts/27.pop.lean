/-! ===== how many bits ===== -/
def cnt (f : Nat → Bool) : Nat → Nat
  | 0 => 0
  | n + 1 => cnt f n + cond (f n) 1 0
theorem cnt_le (f : Nat → Bool) : ∀ n, cnt f n ≤ n
  | 0 => Nat.le_refl _
  | n + 1 => by
    have := cnt_le f n
    unfold cnt
    cases f n <;> simp <;> omega
theorem cnt_pos {f : Nat → Bool} : ∀ {n k : Nat}, k < n → f k = true → 0 < cnt f n
  | n + 1, k, hk, hf => by
    unfold cnt
    by_cases h : k = n
    · subst h; rw [hf]; simp
    · have := cnt_pos (n := n) (k := k) (by omega) hf
      omega
theorem cnt_0 {f : Nat → Bool} : ∀ {n : Nat}, (∀ k, k < n → f k = false) → cnt f n = 0
  | 0, _ => rfl
  | n + 1, h => by
    unfold cnt
    rw [cnt_0 (fun k hk => h k (by omega)), h n (by omega)]; rfl
theorem pop_bs (μ : ic_M) {f : Nat → Bool} {n : Nat} (hn : n ≤ 18) : fJ6_bitCount_0f7a4 μ (bs f n) = some (nI (cnt f n)) := by
  sorry
