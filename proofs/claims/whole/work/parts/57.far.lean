/-! ===== ways over: how far a cell is from a bank, over safe cells ===== -/
def fr0 (W col c : Nat) : Nat := if c % W = col then 0 else 99
def frN (W N : Nat) (sf : Nat → Bool) (n : Nat) (F : Nat → Nat) (c : Nat) : Nat := if n + 1 < F c ∧ anyB (fun o => adj W c o && (decide (F o = n) && sf o)) N = true then n + 1 else F c
def frI (W N col : Nat) (sf : Nat → Bool) : Nat → Nat → Nat
  | 0 => fr0 W col
  | n + 1 => frN W N sf n (frI W N col sf n)
section FAR
variable {W N col : Nat} {sf : Nat → Bool}
theorem fr_rng : ∀ (n c : Nat), n ≤ 90 → frI W N col sf n c ≤ n ∨ frI W N col sf n c = 99
  | 0, c, _ => by
    show fr0 W col c ≤ 0 ∨ fr0 W col c = 99
    unfold fr0
    split
    · exact Or.inl (Nat.le_refl _)
    · exact Or.inr rfl
  | n + 1, c, h => by
    have := fr_rng n c (by omega)
    show frN W N sf n (frI W N col sf n) c ≤ n + 1 ∨ frN W N sf n (frI W N col sf n) c = 99
    unfold frN
    split
    · exact Or.inl (Nat.le_refl _)
    · omega
theorem fr_step {n k c : Nat} (h : k ≤ n) : frI W N col sf (n + 1) c ≤ k ↔ frI W N col sf n c ≤ k := by
  show frN W N sf n (frI W N col sf n) c ≤ k ↔ _
  unfold frN
  split
  · rename_i h1
    constructor
    · intro h2; omega
    · intro h2
      have := h1.1
      omega
  · exact Iff.rfl
theorem fr_stab {k c : Nat} : ∀ {n : Nat}, k ≤ n → (frI W N col sf n c ≤ k ↔ frI W N col sf k c ≤ k)
  | 0, h => by
    have : k = 0 := by omega
    subst this; exact Iff.rfl
  | n + 1, h => by
    by_cases hk : k = n + 1
    · subst hk; exact Iff.rfl
    · rw [fr_step (by omega), fr_stab (by omega)]
theorem fr_near : ∀ (n : Nat), n ≤ 90 → ∀ c o, o < N → adj W c o = true → sf o = true → frI W N col sf n o < n → frI W N col sf n c ≤ n
  | 0, _, c, o, _, _, _, h => by omega
  | n + 1, hn, c, o, ho, ha, hs, h => by
    have h1 : frI W N col sf n o ≤ n := (fr_step (Nat.le_refl _)).mp (by omega)
    by_cases h2 : frI W N col sf n o < n
    · have := fr_near n (by omega) c o ho ha hs h2
      have := (fr_step (W := W) (N := N) (col := col) (sf := sf) (c := c) (Nat.le_refl n)).mpr this
      omega
    · have e : frI W N col sf n o = n := by omega
      show frN W N sf n (frI W N col sf n) c ≤ n + 1
      unfold frN
      split
      · exact Nat.le_refl _
      · rename_i h3
        rcases Nat.lt_or_ge (n + 1) (frI W N col sf n c) with h4 | h4
        · exact absurd ⟨h4, anyB_t.mpr ⟨o, ho, by simp [ha, e, hs]⟩⟩ h3
        · exact h4
/-- those from which n steps over safe cells are enough, themselves safe -/
def rcI (W N col : Nat) (sf : Nat → Bool) : Nat → Nat → Bool
  | 0 => fun c => decide (c % W = col) && sf c
  | n + 1 => fun c => rcI W N col sf n c || (nxt W N (rcI W N col sf n) c && sf c)
theorem rc_e : ∀ (n : Nat), n ≤ 90 → ∀ c, c < N → rcI W N col sf n c = (sf c && decide (frI W N col sf n c ≤ n))
  | 0, _, c, _ => by
    show (decide (c % W = col) && sf c) = (sf c && decide (fr0 W col c ≤ 0))
    unfold fr0
    by_cases h : c % W = col
    · simp [h]
    · simp [h]
  | n + 1, hn, c, hc => by
    have ih := rc_e n (by omega)
    show (rcI W N col sf n c || (nxt W N (rcI W N col sf n) c && sf c)) = _
    rw [ih c hc]
    cases hs : sf c
    · simp
    · simp only [Bool.true_and, Bool.and_true]
      by_cases h1 : frI W N col sf n c ≤ n
      · have h2 := (fr_step (W := W) (N := N) (col := col) (sf := sf) (c := c) (Nat.le_refl n)).mpr h1
        simp [h1, show frI W N col sf (n + 1) c ≤ n + 1 by omega]
      · rw [decide_eq_false h1, Bool.false_or]
        have h99 : frI W N col sf n c = 99 := by
          rcases fr_rng n c (by omega) with h | h
          · exact absurd h h1
          · exact h
        apply Bool.eq_iff_iff.mpr
        rw [decide_eq_true_eq]
        unfold nxt
        rw [anyB_t]
        show _ ↔ frN W N sf n (frI W N col sf n) c ≤ n + 1
        unfold frN
        constructor
        · rintro ⟨o, ho, h3⟩
          rw [ih o ho, Bool.and_eq_true, Bool.and_eq_true, decide_eq_true_eq] at h3
          obtain ⟨⟨h4, h5⟩, h6⟩ := h3
          have h7 : frI W N col sf n o = n := by
            rcases Nat.lt_or_ge (frI W N col sf n o) n with h8 | h8
            · exact absurd (fr_near n (by omega) c o ho h6 h4 h8) h1
            · omega
          rw [if_pos ⟨by omega, anyB_t.mpr ⟨o, ho, by simp [h6, h7, h4]⟩⟩]
          exact Nat.le_refl _
        · intro h3
          by_cases h4 : n + 1 < frI W N col sf n c ∧ anyB (fun o => adj W c o && (decide (frI W N col sf n o = n) && sf o)) N = true
          · obtain ⟨o, ho, h5⟩ := anyB_t.mp h4.2
            rw [Bool.and_eq_true, Bool.and_eq_true, decide_eq_true_eq] at h5
            refine ⟨o, ho, ?_⟩
            rw [ih o ho]
            simp [h5.1, h5.2.1, h5.2.2]
          · rw [if_neg h4] at h3
            omega
theorem cnt_lt {f g : Nat → Bool} : ∀ {n : Nat}, (∀ k, k < n → f k = true → g k = true) → (∃ k, k < n ∧ g k = true ∧ f k = false) → cnt f n + 1 ≤ cnt g n
  | 0, _, ⟨k, hk, _⟩ => by omega
  | n + 1, h, ⟨k, hk, h1, h2⟩ => by
    rw [cnt_s, cnt_s]
    by_cases hkn : k = n
    · subst hkn
      rw [h1, h2]
      have : cnt f k ≤ cnt g k := by
        clear h1 h2 hk
        induction k with
        | zero => exact Nat.le_refl _
        | succ k ih =>
          rw [cnt_s, cnt_s]
          have := ih (fun j hj => h j (by omega))
          have h3 := h k (by omega)
          cases hf : f k
          · simp; omega
          · rw [h3 hf]; simp; omega
      simp; omega
    · have ih := cnt_lt (n := n) (fun j hj => h j (by omega)) ⟨k, by omega, h1, h2⟩
      have h3 := h n (by omega)
      cases hf : f n
      · simp; omega
      · rw [h3 hf]; simp; omega
theorem fr_many : ∀ (n : Nat), n ≤ 90 → (∃ c, c < N ∧ frI W N col sf n c = n) → n + 1 ≤ cnt (fun c => decide (frI W N col sf n c ≤ n)) N
  | 0, _, ⟨c, hc, h⟩ => cnt_pos hc (by simp [h])
  | n + 1, hn, ⟨c, hc, h⟩ => by
    have h : frN W N sf n (frI W N col sf n) c = n + 1 := h
    have h99 := fr_rng (W := W) (N := N) (col := col) (sf := sf) n c (by omega)
    have hup : n + 1 < frI W N col sf n c ∧ anyB (fun o => adj W c o && (decide (frI W N col sf n o = n) && sf o)) N = true := by
      unfold frN at h
      by_cases h4 : n + 1 < frI W N col sf n c ∧ anyB (fun o => adj W c o && (decide (frI W N col sf n o = n) && sf o)) N = true
      · exact h4
      · rw [if_neg h4] at h; omega
    obtain ⟨o, ho, h5⟩ := anyB_t.mp hup.2
    rw [Bool.and_eq_true, Bool.and_eq_true, decide_eq_true_eq] at h5
    have ih := fr_many n (by omega) ⟨o, ho, h5.2.1⟩
    have := cnt_lt (f := fun c => decide (frI W N col sf n c ≤ n)) (g := fun c => decide (frI W N col sf (n + 1) c ≤ n + 1)) (n := N) (fun k hk h6 => by
      have h6 : frI W N col sf n k ≤ n := by simpa using h6
      have := (fr_step (W := W) (N := N) (col := col) (sf := sf) (c := k) (Nat.le_refl n)).mpr h6
      simp; omega) ⟨c, hc, by
        have : frI W N col sf (n + 1) c = n + 1 := h
        simp [this], by
        simp; omega⟩
    omega
theorem fr_lt (hN : N ≤ 18) {c : Nat} (hc : c < N) (h : frI W N col sf N c < 99) : frI W N col sf N c < N := by
  rcases fr_rng (W := W) (N := N) (col := col) (sf := sf) N c (by omega) with h1 | h1
  · rcases Nat.lt_or_ge (frI W N col sf N c) N with h2 | h2
    · exact h2
    · have := fr_many (W := W) (N := N) (col := col) (sf := sf) N (by omega) ⟨c, hc, by omega⟩
      have h3 := cnt_le (fun c => decide (frI W N col sf N c ≤ N)) N
      omega
  · omega
end FAR
/-! the best of them -/
def bet (F : Nat → Nat) (i : Nat) (o : Option Nat) : Bool := match o with
  | none => true
  | some j => decide (F i < F j)
def bst (cand : Nat → Bool) (F : Nat → Nat) : Nat → Option Nat
  | 0 => none
  | i + 1 => if cand i = true ∧ bet F i (bst cand F i) = true then some i else bst cand F i
theorem bst_s (cand : Nat → Bool) (F : Nat → Nat) (i : Nat) : bst cand F (i + 1) = if cand i = true ∧ bet F i (bst cand F i) = true then some i else bst cand F i := rfl
theorem bst_spec {cand : Nat → Bool} {F : Nat → Nat} : ∀ i, (bst cand F i = none → ∀ c, c < i → cand c = false) ∧ (∀ j, bst cand F i = some j → j < i ∧ cand j = true ∧ ∀ c, c < i → cand c = true → F j < F c ∨ (F j = F c ∧ j ≤ c))
  | 0 => ⟨fun _ c hc => absurd hc (by omega), fun j h => by cases h⟩
  | i + 1 => by
    obtain ⟨h1, h2⟩ := bst_spec (cand := cand) (F := F) i
    rw [bst_s]
    by_cases h : cand i = true ∧ bet F i (bst cand F i) = true
    · rw [if_pos h]
      refine ⟨fun e => (by cases e), fun j e => ?_⟩
      cases e
      refine ⟨by omega, h.1, fun c hc hcc => ?_⟩
      by_cases hci : c = i
      · subst hci; exact Or.inr ⟨rfl, Nat.le_refl _⟩
      · cases hb : bst cand F i with
        | none =>
          rw [h1 hb c (by omega)] at hcc; cases hcc
        | some j =>
          have h3 := h.2
          rw [hb] at h3
          have h3 : F i < F j := of_decide_eq_true h3
          obtain ⟨_, _, h4⟩ := h2 j hb
          have := h4 c (by omega) hcc
          omega
    · rw [if_neg h]
      constructor
      · intro e c hc
        by_cases hci : c = i
        · subst hci
          cases hcc : cand c
          · rfl
          · exfalso
            apply h
            rw [e]
            exact ⟨hcc, rfl⟩
        · exact h1 e c (by omega)
      · intro j e
        obtain ⟨g1, g2, g3⟩ := h2 j e
        refine ⟨by omega, g2, fun c hc hcc => ?_⟩
        by_cases hci : c = i
        · subst hci
          rw [e] at h
          have h3 : ¬ F c < F j := fun h4 => h ⟨hcc, decide_eq_true h4⟩
          rcases Nat.lt_or_ge (F j) (F c) with h4 | h4
          · exact Or.inl h4
          · exact Or.inr ⟨by omega, by omega⟩
        · exact g3 c (by omega) hcc
theorem srch_char {f : Nat → Bool} : ∀ {n i j : Nat}, i ≤ j → j < i + n → f j = true → (∀ k, i ≤ k → k < j → f k = false) → srch f i n = some j
  | 0, i, j, h1, h2, _, _ => by omega
  | n + 1, i, j, h1, h2, h3, h4 => by
    show (if f i = true then some i else srch f (i + 1) n) = some j
    by_cases h : i = j
    · subst h; rw [if_pos h3]
    · rw [if_neg (by rw [h4 i (Nat.le_refl _) (by omega)]; simp)]
      exact srch_char (by omega) (by omega) h3 (fun k k1 k2 => h4 k (by omega) k2)
theorem sel_none {c0 : Nat → Bool} {F : Nat → Nat} {N : Nat} (hN : N ≤ 18) (h : bst (fun c => c0 c && decide (F c < 99)) F N = none) : srch (fun k => anyB (fun c => c0 c && decide (F c ≤ k)) N) 0 N = none := by
  have h1 := (bst_spec N).1 h
  apply srch_none.mpr
  intro k _ hk
  apply anyB_f
  intro c hc
  have h2 : (c0 c && decide (F c < 99)) = false := h1 c hc
  cases hc0 : c0 c
  · rfl
  · rw [hc0, Bool.true_and, decide_eq_false_iff_not] at h2
    simp; omega
theorem sel_some {c0 : Nat → Bool} {F : Nat → Nat} {N j : Nat} (hF : ∀ c, c < N → F c < 99 → F c < N) (h : bst (fun c => c0 c && decide (F c < 99)) F N = some j) : j < N ∧ F j < N ∧ srch (fun k => anyB (fun c => c0 c && decide (F c ≤ k)) N) 0 N = some (F j) ∧ srch (fun c => c0 c && decide (F c ≤ F j)) 0 N = some j := by
  obtain ⟨h1, h2, h3⟩ := (bst_spec N).2 j h
  have h2 : (c0 j && decide (F j < 99)) = true := h2
  rw [Bool.and_eq_true, decide_eq_true_eq] at h2
  have hj := hF j h1 h2.2
  have key : ∀ c, c < N → c0 c = true → F c < 99 → F j < F c ∨ (F j = F c ∧ j ≤ c) := fun c hc g1 g2 => h3 c hc (by simp [g1, g2])
  refine ⟨h1, hj, srch_char (by omega) (by omega) (anyB_t.mpr ⟨j, h1, by simp [h2.1]⟩) (fun k _ hk => anyB_f (fun c hc => ?_)), srch_char (by omega) (by omega) (by simp [h2.1]) (fun c _ hc => ?_)⟩
  · cases g1 : c0 c
    · rfl
    · rw [Bool.true_and, decide_eq_false_iff_not]
      intro g2
      have := key c hc g1 (by omega)
      omega
  · cases g1 : c0 c
    · rfl
    · rw [Bool.true_and, decide_eq_false_iff_not]
      intro g2
      have := key c (by omega) g1 (by omega)
      omega
