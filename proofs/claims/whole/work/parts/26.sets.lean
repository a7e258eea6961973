/-! ===== sets of cells and of persons ===== -/
theorem rOK_y {W H S P : Nat} (h : rOK W H S P) {c : Nat} (hc : c < W * H) : rivY W H := by
  rcases h with ⟨h1, h2, h3, h4, -⟩ | ⟨rfl, rfl, -⟩
  · exact ⟨h1, h2, h3, h4⟩
  · omega
theorem rOK_N {W H S P : Nat} (h : rOK W H S P) : W * H ≤ 18 := by
  rcases h with ⟨h1, h2, h3, h4, -⟩ | ⟨rfl, rfl, -⟩
  · exact (rivY_le ⟨h1, h2, h3, h4⟩).1
  · omega
theorem rOK_P {W H S P : Nat} (h : rOK W H S P) : P ≤ 6 := by
  rcases h with ⟨-, -, -, -, -, -, h⟩ | ⟨-, -, -, rfl⟩
  · exact h
  · omega
theorem set_for {lp : Nat → Int32 → Nat → Option Int32} {f : Nat → Bool} {N : Nat} (hN : N ≤ 100) (hs : ∀ fu i s, i < N → lp (fu + 1) s i = lp fu (s ||| cond (f i) (1 <<< (nI i &&& 31)) 0) (i + 1)) (hx : ∀ fu s, lp (fu + 1) s N = some s) : lp 1000 0 0 = some (bs f N) :=
  for_e (lp := fun fu i s => lp fu s i) (fin := some) N (fun _ _ => True) (fun fu i s hi _ => hs fu i s hi) (fun _ _ _ _ => trivial) (fun fu s _ => hx fu s) N 1000 0 0 (by omega) (by omega) trivial
/-- inches in their bounds -/
def gI (inc : Nat → Int32) : Prop := ∀ c, c < 18 → ∃ n, n ≤ 60 ∧ inc c = nI n
theorem gI_le {inc : Nat → Int32} (h : gI inc) {c : Nat} (hc : c < 18) : (inc c ≤ 0) = (inc c = 0) := by
  obtain ⟨n, hn, e⟩ := h c hc
  rw [e]
  apply propext
  rw [show (0 : Int32) = nI 0 from rfl, nI_leI (by omega) (by omega), nI_eq (by omega) (by omega)]
  omega
/-- an ice, seen from outside: persons' places, inches -/
def crk (W N P S : Nat) (wt plc inc : Nat → Int32) (c : Nat) : Bool := decide (¬ ldS W N P wt plc c ≤ nI S * inc c * 3 / 4) && decide (¬ nI S * inc c < ldS W N P wt plc c)
def ovl (W N P S : Nat) (wt plc inc : Nat → Int32) (c : Nat) : Bool := decide (¬ inc c = 0) && decide (¬ ldS W N P wt plc c ≤ nI S * inc c)
def spr (W N P S : Nat) (wt plc inc : Nat → Int32) (c : Nat) : Int32 := nI S * inc c - ldS W N P wt plc c
section CLS
variable {μ : ic_M} {a r W H S P : Nat}
theorem c_holes (hr : cR μ r W H S P) (ho : rOK W H S P) : fX1_holes μ a r = some (bs (fun c => decide (μ (a + 1) c = 0)) (W * H)) := by
  have hN := rOK_N ho
  unfold fX1_holes
  have key : lpX1_holes_4 μ a r 1000 0 0 = _ := set_for (lp := fun fu s i => lpX1_holes_4 μ a r fu s (nI i)) (f := fun c => decide (μ (a + 1) c = 0)) (N := W * H) (by omega) ?_ ?_
  · rw [key]; rfl
  · intro fu i s hi
    rw [lpX1_holes_4, hr.2.2.2.1, if_neg (nI_ge hi (by omega)), c_hole (by omega), bd_some]
    simp only [lt_e, bI_0, show nI i + 1 = nI (i + 1) from nI_1 i]
    by_cases h : μ (a + 1) i = 0
    · simp [h, bd_some]
    · simp [h, bd_some]
  · intro fu s
    rw [lpX1_holes_4, hr.2.2.2.1, if_pos (by exact nI_le (Nat.le_refl _) (by omega))]
theorem c_on {x : Int32} (hr : cR μ r W H S P) (ho : rOK W H S P) : fX1_personsOn μ a r x = some (bs (fun p => decide (μ (a + 2) p = x)) P) := by
  have hP := rOK_P ho
  unfold fX1_personsOn
  have key : lpX1_personsOn_5 μ a r x 1000 0 0 = _ := set_for (lp := fun fu s i => lpX1_personsOn_5 μ a r x fu s (nI i)) (f := fun p => decide (μ (a + 2) p = x)) (N := P) (by omega) ?_ ?_
  · rw [key]; rfl
  · intro fu i s hi
    rw [lpX1_personsOn_5, hr.2.2.2.2, if_neg (nI_ge hi (by omega)), c_place (by omega), bd_some]
    simp only [lt_e, show nI i + 1 = nI (i + 1) from nI_1 i]
    by_cases h : μ (a + 2) i = x
    · simp [h, bd_some]
    · simp [h, bd_some]
  · intro fu s
    rw [lpX1_personsOn_5, hr.2.2.2.2, if_pos (by exact nI_le (Nat.le_refl _) (by omega))]
theorem c_drowned (hr : cR μ r W H S P) (ho : rOK W H S P) : fX1_drowned μ a r = some (bs (fun p => decide (μ (a + 2) p = -2)) P) := by
  unfold fX1_drowned
  rw [c_on hr ho]; rfl
theorem c_crack (hr : cR μ r W H S P) (ho : rOK W H S P) (hp : ∀ p, p < P → vP (W * H) (μ (a + 2) p)) : fX1_cracking μ a r = some (bs (crk W (W * H) P S (μ (r + 5)) (μ (a + 2)) (μ (a + 1))) (W * H)) := by
  have hN := rOK_N ho
  unfold fX1_cracking
  have key : lpX1_cracking_4 μ a r 1000 0 0 = _ := set_for (lp := fun fu s i => lpX1_cracking_4 μ a r fu s (nI i)) (f := crk W (W * H) P S (μ (r + 5)) (μ (a + 2)) (μ (a + 1))) (N := W * H) (by omega) ?_ ?_
  · rw [key]; rfl
  · intro fu i s hi
    rw [lpX1_cracking_4, hr.2.2.2.1, if_neg (nI_ge hi (by omega)), c_bears hr (by omega), bd_some, c_load hr (rOK_y ho hi) (rOK_P ho) hi hp, bd_some, if_neg (by decide)]
    simp only [lt_e, show nI i + 1 = nI (i + 1) from nI_1 i]
    unfold crk
    by_cases h1 : ldS W (W * H) P (μ (r + 5)) (μ (a + 2)) i ≤ nI S * μ (a + 1) i * 3 / 4
    · simp [h1, bd_some]
    · by_cases h2 : nI S * μ (a + 1) i < ldS W (W * H) P (μ (r + 5)) (μ (a + 2)) i
      · simp [h1, h2, bd_some]
      · simp [h1, h2, bd_some]
  · intro fu s
    rw [lpX1_cracking_4, hr.2.2.2.1, if_pos (by exact nI_le (Nat.le_refl _) (by omega))]
theorem c_ovl (hr : cR μ r W H S P) (ho : rOK W H S P) (hp : ∀ p, p < P → vP (W * H) (μ (a + 2) p)) : fX1_overloaded μ a r = some (bs (ovl W (W * H) P S (μ (r + 5)) (μ (a + 2)) (μ (a + 1))) (W * H)) := by
  have hN := rOK_N ho
  unfold fX1_overloaded
  have key : lpX1_overloaded_4 μ a r 1000 0 0 = _ := set_for (lp := fun fu s i => lpX1_overloaded_4 μ a r fu s (nI i)) (f := ovl W (W * H) P S (μ (r + 5)) (μ (a + 2)) (μ (a + 1))) (N := W * H) (by omega) ?_ ?_
  · rw [key]; rfl
  · intro fu i s hi
    rw [lpX1_overloaded_4, hr.2.2.2.1, if_neg (nI_ge hi (by omega)), c_hole (by omega), bd_some, c_bears hr (by omega), c_load hr (rOK_y ho hi) (rOK_P ho) hi hp]
    simp only [lt_e, bI_0, bd_some, show nI i + 1 = nI (i + 1) from nI_1 i]
    unfold ovl
    by_cases h1 : μ (a + 1) i = 0
    · simp [h1, bd_some]
    · by_cases h2 : ldS W (W * H) P (μ (r + 5)) (μ (a + 2)) i ≤ nI S * μ (a + 1) i
      · simp [h1, h2, bd_some]
      · simp [h1, h2, bd_some]
  · intro fu s
    rw [lpX1_overloaded_4, hr.2.2.2.1, if_pos (by exact nI_le (Nat.le_refl _) (by omega))]
theorem c_spare {c : Nat} (hr : cR μ r W H S P) (ho : rOK W H S P) (hc : c < W * H) (hp : ∀ p, p < P → vP (W * H) (μ (a + 2) p)) : fX1_spare μ a r (nI c) = some (spr W (W * H) P S (μ (r + 5)) (μ (a + 2)) (μ (a + 1)) c) := by
  have hN := rOK_N ho
  unfold fX1_spare
  rw [c_bears hr (by omega), bd_some, c_load hr (rOK_y ho hc) (rOK_P ho) hc hp, bd_some]
  rfl
end CLS
section MOD
variable {μ : ic_M} {r W H S P : Nat}
theorem m_holes (hm : mR μ W H S P) (ho : rOK W H S P) : fX9_holes μ = some (bs (fun c => decide (μ 98 c = 0)) (W * H)) := by
  have hN := rOK_N ho
  unfold fX9_holes
  have key : lpX9_holes_4 μ 1000 0 0 = _ := set_for (lp := fun fu s i => lpX9_holes_4 μ fu s (nI i)) (f := fun c => decide (μ 98 c = 0)) (N := W * H) (by omega) ?_ ?_
  · rw [key]; rfl
  · intro fu i s hi
    rw [lpX9_holes_4, m_cells hm, bd_some, if_neg (nI_ge hi (by omega)), ag_n (by omega) (by omega)]
    simp only [lt_e, show nI i + 1 = nI (i + 1) from nI_1 i]
    by_cases h : μ 98 i = 0
    · simp [h, bd_some]
    · simp [h, bd_some]
  · intro fu s
    rw [lpX9_holes_4, m_cells hm, bd_some, if_pos (by exact nI_le (Nat.le_refl _) (by omega))]
theorem m_on {x : Int32} (hr : ic_il 106 r = 28) (hm : mR μ W H S P) (ho : rOK W H S P) : fX9_onCell μ r x = some (bs (fun p => decide (μ r (18 + p) = x)) P) := by
  have hP := rOK_P ho
  unfold fX9_onCell
  have key : lpX9_onCell_5 μ r x 1000 0 0 = _ := set_for (lp := fun fu s i => lpX9_onCell_5 μ r x fu s (nI i)) (f := fun p => decide (μ r (18 + p) = x)) (N := P) (by omega) ?_ ?_
  · rw [key]; rfl
  · intro fu i s hi
    have e18 : (18 : Int32) + nI i = nI (18 + i) := nI_add 18 i
    rw [lpX9_onCell_5, show ic_ag μ 92 7 (3 : Int32) = ic_ag μ 92 7 (nI 3) from rfl, m_ag92 (by omega), hm.2.2.2, if_neg (nI_ge hi (by omega)), hr, e18, ag_n (by omega) (by omega)]
    simp only [lt_e, show nI i + 1 = nI (i + 1) from nI_1 i]
    by_cases h : μ r (18 + i) = x
    · simp [h, bd_some]
    · simp [h, bd_some]
  · intro fu s
    rw [lpX9_onCell_5, show ic_ag μ 92 7 (3 : Int32) = ic_ag μ 92 7 (nI 3) from rfl, m_ag92 (by omega), hm.2.2.2, if_pos (by exact nI_le (Nat.le_refl _) (by omega))]
theorem m_cracks {c : Nat} (hr : ic_il 106 r = 28) (hm : mR μ W H S P) (ho : rOK W H S P) (hc : c < W * H) (hp : ∀ p, p < P → vP (W * H) (μ r (18 + p))) : fX9_cracks μ r (nI c) = some (bI (crk W (W * H) P S (fun p => μ 94 (2 * p + 1)) (fun p => μ r (18 + p)) (μ r) c)) := by
  have hN := rOK_N ho
  unfold fX9_cracks
  rw [m_load hr hm (rOK_y ho hc) (rOK_P ho) hc hp, bd_some, m_bears hr hm (by omega), bd_some, if_neg (by decide), bd_some, Int32.mul_comm 3]
  unfold crk
  by_cases h1 : ldS W (W * H) P (fun p => μ 94 (2 * p + 1)) (fun p => μ r (18 + p)) c ≤ nI S * μ r c * 3 / 4
  · simp [h1, bd_some, rz_0, bI]
  · by_cases h2 : nI S * μ r c < ldS W (W * H) P (fun p => μ 94 (2 * p + 1)) (fun p => μ r (18 + p)) c
    · simp [h1, h2, bd_some, rz_0, bI]
    · simp [h1, h2, bd_some, rz_1, bI]
theorem m_knock (hm : mR μ W H S P) (ho : rOK W H S P) (hp : ∀ p, p < P → vP (W * H) (μ 98 (18 + p))) : fX9_knock μ = some (bs (crk W (W * H) P S (fun p => μ 94 (2 * p + 1)) (fun p => μ 98 (18 + p)) (μ 98)) (W * H)) := by
  have hN := rOK_N ho
  unfold fX9_knock
  have key : lpX9_knock_4 μ 1000 0 0 = _ := set_for (lp := fun fu s i => lpX9_knock_4 μ fu s (nI i)) (f := crk W (W * H) P S (fun p => μ 94 (2 * p + 1)) (fun p => μ 98 (18 + p)) (μ 98)) (N := W * H) (by omega) ?_ ?_
  · rw [key]; rfl
  · intro fu i s hi
    rw [lpX9_knock_4, m_cells hm, bd_some, if_neg (nI_ge hi (by omega)), m_cracks rfl hm ho hi hp, bd_some]
    simp only [lt_e, bI_0, show nI i + 1 = nI (i + 1) from nI_1 i]
    cases crk W (W * H) P S (fun p => μ 94 (2 * p + 1)) (fun p => μ 98 (18 + p)) (μ 98) i
    · simp [bd_some]
    · simp [bd_some]
  · intro fu s
    rw [lpX9_knock_4, m_cells hm, bd_some, if_pos (by exact nI_le (Nat.le_refl _) (by omega))]
theorem m_ovl (hr : ic_il 106 r = 28) (hm : mR μ W H S P) (ho : rOK W H S P) (hg : gI (μ r)) (hp : ∀ p, p < P → vP (W * H) (μ r (18 + p))) : fX9_breaking μ r = some (bs (ovl W (W * H) P S (fun p => μ 94 (2 * p + 1)) (fun p => μ r (18 + p)) (μ r)) (W * H)) := by
  have hN := rOK_N ho
  unfold fX9_breaking
  have key : lpX9_breaking_4 μ r 1000 0 0 = _ := set_for (lp := fun fu s i => lpX9_breaking_4 μ r fu s (nI i)) (f := ovl W (W * H) P S (fun p => μ 94 (2 * p + 1)) (fun p => μ r (18 + p)) (μ r)) (N := W * H) (by omega) ?_ ?_
  · rw [key]; rfl
  · intro fu i s hi
    rw [lpX9_breaking_4, m_cells hm, bd_some, if_neg (nI_ge hi (by omega)), hr, ag_n (by omega) (by omega), m_load hr hm (rOK_y ho hi) (rOK_P ho) hi hp, m_bears hr hm (by omega)]
    simp only [lt_e, bd_some, gI_le hg (show i < 18 by omega), show nI i + 1 = nI (i + 1) from nI_1 i]
    unfold ovl
    by_cases h1 : μ r i = 0
    · simp [h1, bd_some]
    · by_cases h2 : ldS W (W * H) P (fun p => μ 94 (2 * p + 1)) (fun p => μ r (18 + p)) i ≤ nI S * μ r i
      · simp [h1, h2, bd_some]
      · simp [h1, h2, bd_some]
  · intro fu s
    rw [lpX9_breaking_4, m_cells hm, bd_some, if_pos (by exact nI_le (Nat.le_refl _) (by omega))]
theorem m_spare {c : Nat} (hm : mR μ W H S P) (ho : rOK W H S P) (hc : c < W * H) (hp : ∀ p, p < P → vP (W * H) (μ 98 (18 + p))) : fX9_spare μ (nI c) = some (spr W (W * H) P S (fun p => μ 94 (2 * p + 1)) (fun p => μ 98 (18 + p)) (μ 98) c) := by
  have hN := rOK_N ho
  unfold fX9_spare
  rw [m_bears rfl hm (by omega), bd_some, m_load rfl hm (rOK_y ho hc) (rOK_P ho) hc hp, bd_some]
  rfl
end MOD
/-! the cell that goes first -/
def fst1 (inc sp : Nat → Int32) (c : Nat) (best : Int32) : Int32 := if inc c = 0 then best else if best = -1 then nI c else if sp best.toNatClampNeg ≤ sp c then best else nI c
theorem m1_ne {c : Nat} (h : c < 18) : ¬ nI c = -1 := fun e => by
  have h1 : ¬ nI c < 0 := nI_pos (by omega)
  rw [e] at h1
  exact h1 (by decide)
theorem c_first {μ : ic_M} {a r W H S P : Nat} (hr : cR μ r W H S P) (ho : rOK W H S P) (hp : ∀ p, p < P → vP (W * H) (μ (a + 2) p)) : fX1_weakest μ a r = some (itr (fst1 (μ (a + 1)) (spr W (W * H) P S (μ (r + 5)) (μ (a + 2)) (μ (a + 1)))) 0 (W * H) (-1)) := by
  have hN := rOK_N ho
  unfold fX1_weakest
  have key : lpX1_weakest_4 μ a r 1000 (-1) 0 = _ := for_e (lp := fun fu i s => lpX1_weakest_4 μ a r fu s (nI i)) (fin := some) (g := fst1 (μ (a + 1)) (spr W (W * H) P S (μ (r + 5)) (μ (a + 2)) (μ (a + 1)))) (W * H) (fun i s => s = -1 ∨ ∃ b, b < i ∧ s = nI b) ?_ ?_ ?_ (W * H) 1000 0 (-1) (by omega) (by omega) (Or.inl rfl)
  · rw [key]; rfl
  · intro fu i s hi hI
    rw [lpX1_weakest_4, hr.2.2.2.1, if_neg (nI_ge hi (by omega)), c_hole (by omega), bd_some]
    simp only [lt_e, bI_0, show nI i + 1 = nI (i + 1) from nI_1 i, fst1]
    by_cases h0 : μ (a + 1) i = 0
    · simp [h0, bd_some]
    · rcases hI with rfl | ⟨b, hb, rfl⟩
      · simp [h0, bd_some]
      · rw [c_spare hr ho hi hp, c_spare hr ho (by omega) hp, nI_clamp (show b < 2 ^ 31 by omega)]
        simp only [bd_some, if_neg (m1_ne (show b < 18 by omega)), h0, decide_false, if_true, if_false]
        split <;> rfl
  · intro i s hi hI
    unfold fst1
    split
    · rcases hI with h | ⟨b, hb, h⟩
      · exact Or.inl h
      · exact Or.inr ⟨b, by omega, h⟩
    · split
      · exact Or.inr ⟨i, by omega, rfl⟩
      · split
        · rcases hI with h | ⟨b, hb, h⟩
          · exact Or.inl h
          · exact Or.inr ⟨b, by omega, h⟩
        · exact Or.inr ⟨i, by omega, rfl⟩
  · intro fu s _
    rw [lpX1_weakest_4, hr.2.2.2.1, if_pos (by exact nI_le (Nat.le_refl _) (by omega))]
theorem m_first {μ : ic_M} {W H S P : Nat} (hm : mR μ W H S P) (ho : rOK W H S P) (hg : gI (μ 98)) (hp : ∀ p, p < P → vP (W * H) (μ 98 (18 + p))) : fX9_first μ = some (itr (fst1 (μ 98) (spr W (W * H) P S (fun p => μ 94 (2 * p + 1)) (fun p => μ 98 (18 + p)) (μ 98))) 0 (W * H) (-1)) := by
  have hN := rOK_N ho
  unfold fX9_first
  have key : lpX9_first_4 μ 1000 (-1) 0 = _ := for_e (lp := fun fu i s => lpX9_first_4 μ fu s (nI i)) (fin := some) (g := fst1 (μ 98) (spr W (W * H) P S (fun p => μ 94 (2 * p + 1)) (fun p => μ 98 (18 + p)) (μ 98))) (W * H) (fun i s => s = -1 ∨ ∃ b, b < i ∧ s = nI b) ?_ ?_ ?_ (W * H) 1000 0 (-1) (by omega) (by omega) (Or.inl rfl)
  · rw [key]; rfl
  · intro fu i s hi hI
    rw [lpX9_first_4, m_cells hm, bd_some, if_neg (nI_ge hi (by omega)), ag_n (by omega) (by omega)]
    simp only [lt_e, gI_le hg (show i < 18 by omega), show nI i + 1 = nI (i + 1) from nI_1 i, fst1]
    by_cases h0 : μ 98 i = 0
    · simp [h0, bd_some]
    · rcases hI with rfl | ⟨b, hb, rfl⟩
      · simp [h0, bd_some]
      · rw [m_spare hm ho hi hp, m_spare hm ho (by omega) hp, nI_clamp (show b < 2 ^ 31 by omega)]
        simp only [bd_some, if_neg (m1_ne (show b < 18 by omega)), h0, if_false]
        split <;> rfl
  · intro i s hi hI
    unfold fst1
    split
    · rcases hI with h | ⟨b, hb, h⟩
      · exact Or.inl h
      · exact Or.inr ⟨b, by omega, h⟩
    · split
      · exact Or.inr ⟨i, by omega, rfl⟩
      · split
        · rcases hI with h | ⟨b, hb, h⟩
          · exact Or.inl h
          · exact Or.inr ⟨b, by omega, h⟩
        · exact Or.inr ⟨i, by omega, rfl⟩
  · intro fu s _
    rw [lpX9_first_4, m_cells hm, bd_some, if_pos (by exact nI_le (Nat.le_refl _) (by omega))]
