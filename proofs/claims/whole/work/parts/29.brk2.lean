/-! ===== one round of breaking is enough: loads only fall ===== -/
def sumN (P : Nat) (f : Nat → Nat) : Nat := itr (fun p s => s + f p) 0 P 0
theorem sumN_succ (P : Nat) (f : Nat → Nat) : sumN (P + 1) f = sumN P f + f P := by
  unfold sumN
  rw [itr_succ, Nat.zero_add]
theorem sumS_n {f : Nat → Int32} {g : Nat → Nat} : ∀ {P : Nat}, (∀ p, p < P → f p = nI (g p)) → sumS P f = nI (sumN P g)
  | 0, _ => rfl
  | P + 1, h => by
    rw [sumS_succ, sumN_succ, sumS_n (fun p hp => h p (by omega)), h P (by omega), nI_add]
theorem sumN_le {f g : Nat → Nat} : ∀ {P : Nat}, (∀ p, p < P → f p ≤ g p) → sumN P f ≤ sumN P g
  | 0, _ => Nat.le_refl _
  | P + 1, h => by
    rw [sumN_succ, sumN_succ]
    have := sumN_le (P := P) (fun p hp => h p (by omega))
    have := h P (by omega)
    omega
theorem sumN_b {f : Nat → Nat} {B : Nat} : ∀ {P : Nat}, (∀ p, p < P → f p ≤ B) → sumN P f ≤ B * P
  | 0, _ => Nat.zero_le _
  | P + 1, h => by
    rw [sumN_succ, Nat.mul_succ]
    have := sumN_b (P := P) (fun p hp => h p (by omega))
    have := h P (by omega)
    omega
/-- weights in their bounds -/
def gW (P : Nat) (wt : Nat → Int32) : Prop := ∀ p, p < P → ∃ n, n ≤ 200 ∧ wt p = nI n
def ldN (W N P : Nat) (w : Nat → Nat) (plc : Nat → Int32) (c : Nat) : Nat := sumN P (fun p => if plc p = nI c then w p else 0) + sumN P (fun p => if adjX W N (plc p) c = true then w p else 0) / 2
theorem ldS_n {W N P c : Nat} {wt plc : Nat → Int32} {w : Nat → Nat} (hP : P ≤ 6) (hw : ∀ p, p < P → w p ≤ 200 ∧ wt p = nI (w p)) : ldS W N P wt plc c = nI (ldN W N P w plc c) ∧ ldN W N P w plc c ≤ 1800 := by
  have h1 : sumS P (fun p => if plc p = nI c then wt p else 0) = nI (sumN P (fun p => if plc p = nI c then w p else 0)) := sumS_n (fun p hp => by
    by_cases h : plc p = nI c
    · simp only [h, if_true]; exact (hw p hp).2
    · simp only [h, if_false]; rfl)
  have h2 : sumS P (fun p => if adjX W N (plc p) c = true then wt p else 0) = nI (sumN P (fun p => if adjX W N (plc p) c = true then w p else 0)) := sumS_n (fun p hp => by
    by_cases h : adjX W N (plc p) c = true
    · simp only [h, if_true]; exact (hw p hp).2
    · simp only [h, if_false]; rfl)
  have b1 : sumN P (fun p => if plc p = nI c then w p else 0) ≤ 200 * P := sumN_b (fun p hp => by
    have := (hw p hp).1
    split <;> omega)
  have b2 : sumN P (fun p => if adjX W N (plc p) c = true then w p else 0) ≤ 200 * P := sumN_b (fun p hp => by
    have := (hw p hp).1
    split <;> omega)
  constructor
  · unfold ldS ldN
    rw [h1, h2, show (2 : Int32) = nI 2 from rfl, pk_div (by omega) (by omega) (by omega), nI_add]
  · unfold ldN
    omega
theorem m2_ne {c : Nat} (h : c < 2 ^ 31) : ¬ (-2 : Int32) = nI c := fun e => by
  have h1 : ¬ nI c < 0 := nI_pos h
  rw [← e] at h1
  exact h1 (by decide)
theorem ldN_le {W N P c : Nat} {w : Nat → Nat} {plc plc' : Nat → Int32} (hc : c < 2 ^ 31) (h : ∀ p, p < P → plc' p = plc p ∨ plc' p = -2) : ldN W N P w plc' c ≤ ldN W N P w plc c := by
  have h1 : sumN P (fun p => if plc' p = nI c then w p else 0) ≤ sumN P (fun p => if plc p = nI c then w p else 0) := sumN_le (fun p hp => by
    rcases h p hp with e | e
    · rw [e]; exact Nat.le_refl _
    · rw [e, if_neg (m2_ne hc)]; exact Nat.zero_le _)
  have h2 : sumN P (fun p => if adjX W N (plc' p) c = true then w p else 0) ≤ sumN P (fun p => if adjX W N (plc p) c = true then w p else 0) := sumN_le (fun p hp => by
    rcases h p hp with e | e
    · rw [e]; exact Nat.le_refl _
    · rw [e, adjX_neg (by decide)]; exact Nat.zero_le _)
  unfold ldN
  omega
theorem gW_f {P : Nat} {wt : Nat → Int32} (h : gW P wt) : ∃ w : Nat → Nat, ∀ p, p < P → w p ≤ 200 ∧ wt p = nI (w p) :=
  ⟨fun p => if hp : p < P then (h p hp).choose else 0, fun p hp => by
    dsimp only
    rw [dif_pos hp]
    exact (h p hp).choose_spec⟩
/-- what is overloaded behind a round -/
theorem ovl_again {W N P S : Nat} {wt plc plc' inc inc' : Nat → Int32} {f : Nat → Bool} (hP : P ≤ 6) (hN : N ≤ 18) (hw : gW P wt) (hf : ∀ c, c < N → f c = ovl W N P S wt plc inc c) (hi : ∀ c, c < N → inc' c = if f c = true then 0 else inc c) (hp : ∀ p, p < P → plc' p = plc p ∨ plc' p = -2) : ∀ c, c < N → ovl W N P S wt plc' inc' c = false := by
  intro c hc
  obtain ⟨w, hw⟩ := gW_f hw
  unfold ovl
  rw [hi c hc]
  by_cases h : f c = true
  · simp [h]
  · rw [if_neg h]
    by_cases h0 : inc c = 0
    · simp [h0]
    · have h1 := hf c hc
      have h1 : ovl W N P S wt plc inc c = false := by rw [← h1]; simpa using h
      unfold ovl at h1
      simp only [h0, not_false_eq_true, decide_true, Bool.true_and, decide_eq_false_iff_not, Classical.not_not] at h1
      have h2 := ldS_n (W := W) (N := N) (c := c) (plc := plc) hP hw
      have h3 := ldS_n (W := W) (N := N) (c := c) (plc := plc') hP hw
      have h4 := ldN_le (W := W) (N := N) (c := c) (w := w) (by omega) hp
      rw [h2.1] at h1
      rw [h3.1]
      have h5 : nI (ldN W N P w plc' c) ≤ nI (ldN W N P w plc c) := nI_le h4 (by omega)
      have h6 : nI (ldN W N P w plc' c) ≤ nI S * inc c := by
        rw [Int32.le_iff_toInt_le] at h1 h5 ⊢
        omega
      simp [h6]
/-! ===== the class's breaking ===== -/
/-- the memory behind a round, of an ice at a -/
def cB (μ : ic_M) (a N P : Nat) (f : Nat → Bool) : ic_M := pm (pm μ (a + 1) 0 f (fun _ => 0) N) (a + 2) 0 (fun p => inS (bs f N) (μ (a + 2) p)) (fun _ => -2) P
theorem pm_none {μ : ic_M} {R off i : Nat} {f : Nat → Bool} {v : Nat → Int32} (h : ∀ j, j < i → f j = false) : pm μ R off f v i = μ := by
  funext b k
  unfold pm
  rw [if_neg]
  rintro ⟨h1, h2, h3, h4⟩
  rw [h (k - off) (by omega)] at h4
  cases h4
theorem inS_0 (y : Int32) : inS 0 y = false := by simp [inS, b_0]
theorem cB_none {μ : ic_M} {a N P : Nat} {f : Nat → Bool} (hN : N ≤ 31) (h : ∀ c, c < N → f c = false) : cB μ a N P f = μ := by
  unfold cB
  rw [(bs_zero hN).mpr h, pm_none h, pm_none (fun j _ => inS_0 _)]
theorem vP_of {N : Nat} {x : Int32} {plc : Int32} (h : vP N plc) : (if inS x plc = true then (-2 : Int32) else plc) = plc ∨ (if inS x plc = true then (-2 : Int32) else plc) = -2 := by
  by_cases h : inS x plc = true
  · simp [h]
  · simp [h]
theorem cB_pl {μ : ic_M} {a N P p : Nat} {f : Nat → Bool} (hp : p < P) : cB μ a N P f (a + 2) p = if inS (bs f N) (μ (a + 2) p) = true then -2 else μ (a + 2) p := by
  unfold cB
  rw [pm_in0 hp, pm_ne (by omega)]
theorem cB_in {μ : ic_M} {a N P c : Nat} {f : Nat → Bool} (hc : c < N) : cB μ a N P f (a + 1) c = if f c = true then 0 else μ (a + 1) c := by
  unfold cB
  rw [pm_ne (by omega), pm_in0 hc]
theorem cB_ne {μ : ic_M} {a N P b : Nat} {f : Nat → Bool} (h1 : b ≠ a + 1) (h2 : b ≠ a + 2) (k : Nat) : cB μ a N P f b k = μ b k := by
  unfold cB
  rw [pm_ne h2, pm_ne h1]
theorem c_break {μ : ic_M} {a r W H S P : Nat} (har : a + 2 < r) (hr : cR μ r W H S P) (ho : rOK W H S P) (hw : gW P (μ (r + 5))) (hp : ∀ p, p < P → vP (W * H) (μ (a + 2) p)) :
    fX1_breakOn μ a r = some (nI (cnt (ovl W (W * H) P S (μ (r + 5)) (μ (a + 2)) (μ (a + 1))) (W * H)), ic_up (cB μ a (W * H) P (ovl W (W * H) P S (μ (r + 5)) (μ (a + 2)) (μ (a + 1)))) a 5 (μ a 5 + nI (cnt (ovl W (W * H) P S (μ (r + 5)) (μ (a + 2)) (μ (a + 1))) (W * H)))) := by
  have hN := rOK_N ho
  have hP := rOK_P ho
  generalize hF : ovl W (W * H) P S (μ (r + 5)) (μ (a + 2)) (μ (a + 1)) = f
  have e1 := c_ovl (a := a) hr ho hp
  rw [hF] at e1
  have key : lpX1_breakOn_4 a r 1000 0 0 μ = some (.inl (nI (cnt f (W * H)), cB μ a (W * H) P f)) := by
    by_cases hz : ∀ c, c < W * H → f c = false
    · rw [cnt_0 hz, cB_none (by omega) hz, lpX1_breakOn_4]
      split
      · rfl
      · rw [e1, bd_some, (bs_zero (by omega)).mpr hz, if_pos rfl]
        rfl
    · obtain ⟨c, hc⟩ := Classical.not_forall.mp hz
      obtain ⟨hc, hfc⟩ := Classical.not_imp.mp hc
      have hN0 : 0 < W * H := by omega
      have hN2 := rivY_le (rOK_y ho hc)
      have hbs : ¬ bs f (W * H) = 0 := fun e => hz ((bs_zero (by omega)).mp e)
      rw [lpX1_breakOn_4, hr.2.2.2.1, if_neg (show ¬ nI (W * H) ≤ 0 from nI_nle hN0 (by omega)), e1, bd_some, if_neg hbs, c_zero har hr.2.2.2.1 hN, bd_some, c_drownOn har (by rw [pm_ne (by omega)]; exact hr.2.2.2.2) hP, bd_some, pop_bs _ hN, bd_some]
      simp only [lt_e]
      have eB : pm (pm μ (a + 1) 0 (bt (bs f (W * H))) (fun _ => 0) (W * H)) (a + 2) 0 (fun p => inS (bs f (W * H)) (pm μ (a + 1) 0 (bt (bs f (W * H))) (fun _ => 0) (W * H) (a + 2) p)) (fun _ => -2) P = cB μ a (W * H) P f := by
        unfold cB
        rw [pm_congr (μ := μ) (R := a + 1) (off := 0) (f := bt (bs f (W * H))) (g := f) (v := fun _ => 0) (w := fun _ => 0) (i := W * H) (fun j hj => ⟨by rw [bs_bt (by omega) (by omega)]; simp [hj], rfl⟩)]
        exact pm_congr (fun j hj => ⟨by rw [pm_ne (by omega)], rfl⟩)
      rw [eB]
      have hr' : cR (cB μ a (W * H) P f) r W H S P := by
        refine ⟨?_, ?_, ?_, ?_, ?_⟩ <;> rw [cB_ne (by omega) (by omega)]
        · exact hr.1
        · exact hr.2.1
        · exact hr.2.2.1
        · exact hr.2.2.2.1
        · exact hr.2.2.2.2
      have ew : cB μ a (W * H) P f (r + 5) = μ (r + 5) := by
        funext k; exact cB_ne (by omega) (by omega) k
      have hp' : ∀ p, p < P → vP (W * H) (cB μ a (W * H) P f (a + 2) p) := by
        intro p hpp
        rw [cB_pl hpp]
        split
        · exact Or.inl rfl
        · exact hp p hpp
      have e2 := c_ovl (a := a) hr' ho hp'
      have hz2 : ∀ c, c < W * H → ovl W (W * H) P S (cB μ a (W * H) P f (r + 5)) (cB μ a (W * H) P f (a + 2)) (cB μ a (W * H) P f (a + 1)) c = false := by
        rw [ew]
        refine ovl_again (f := f) hP hN hw (fun c hc => by rw [← hF]) (fun c hc => cB_in hc) (fun p hpp => ?_)
        rw [cB_pl hpp]
        exact vP_of (hp p hpp)
      rw [(bs_zero (by omega)).mpr hz2] at e2
      rw [lpX1_breakOn_4]
      split
      · simp
      · rw [e2, bd_some, if_pos rfl]
        simp
  unfold fX1_breakOn
  rw [show lpX1_breakOn_4 a r 1000 (0 : Int32) (0 : Int32) μ = _ from key, bd_some]
  simp only [Sum.elim_inl, pu_e, cB_ne (show a ≠ a + 1 by omega) (show a ≠ a + 2 by omega)]
