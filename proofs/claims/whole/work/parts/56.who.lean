/-! ===== who, ask ===== -/
def wgS (q : Nat → Int32) (P j : Nat) : Int32 := sumS P (fun p => if bt (nI j) p = true then q (2 * p + 1) else 0)
/-- what is seen: n sights, their inches and whether it broke -/
def fitB (q sn : Nat → Int32) (S P n j : Nat) : Bool := allB (fun k => decide ((if wgS q P j ≤ nI S * sn (2 * k) then (0 : Int32) else 1) = sn (2 * k + 1))) n
def srZ (o : Option Nat) : Unit ⊕ Int32 := match o with
  | none => .inl ()
  | some _ => .inr 0
section WHO
variable {R : Nat} {μ : ic_M} {q sn : Nat → Int32} {W H S P n j : Nat}
theorem c_wg (e : env R μ q W H S P) (hj : j < 64) : fX5_weightOfAll μ R (nI j) = some (wgS q P j) := by
  obtain ⟨ho, hr, hm, hl, hpp⟩ := id e.1
  have hP := rOK_P ho
  have k := for_M (lp := fun fu i y => lpX5_weightOfAll_4 μ R (nI j) fu y (nI i)) (M := fun i => sumS i (fun p => if bt (nI j) p = true then q (2 * p + 1) else 0)) (fin := some (wgS q P j)) P (by omega) (fun fu i hi => by
      rw [lpX5_weightOfAll_4, hr.2.2.2.2, if_neg (nI_ge hi (by omega)), isIn_e _ (by omega), bd_some, c_weight (by omega), (env_w e).1 i hi, sumS_succ]
      simp only [lt_e, nI_1, bI_0, bd_some]
      cases bt (nI j) i
      · rw [if_pos rfl, bd_some, if_neg (by simp), Int32.add_zero]
      · rw [if_neg (by simp), bd_some, if_pos rfl]) (fun fu => by
      rw [lpX5_weightOfAll_4, hr.2.2.2.2, if_pos (by exact nI_le (Nat.le_refl _) (by omega))]; rfl)
  have k : lpX5_weightOfAll_4 μ R (nI j) 1000 0 0 = _ := k
  unfold fX5_weightOfAll
  rw [k]; rfl
theorem m_bb {x : Int32} (e : env R μ q W H S P) (hj : j < 64) : fX9_brokeBy μ (nI j) x = some (if wgS q P j ≤ nI S * x then (0 : Int32) else 1) := by
  obtain ⟨ho, hr, hm, hl, hpp⟩ := id e.1
  have hP := rOK_P ho
  have k := for_M (lp := fun fu i y => lpX9_brokeBy_5 μ (nI j) x fu y (nI i)) (M := fun i => sumS i (fun p => if bt (nI j) p = true then q (2 * p + 1) else 0)) (fin := some (wgS q P j)) P (by omega) (fun fu i hi => by
      rw [lpX9_brokeBy_5, show ic_ag μ 92 7 (3 : Int32) = ic_ag (α := Int32) μ 92 7 (nI 3) from rfl, m_ag92 (by omega), hm.2.2.2, if_neg (nI_ge hi (by omega)), has_e _ (by omega), bd_some, show (2 : Int32) * nI i + 1 = nI (2 * i + 1) from by rw [show (2 : Int32) * nI i = nI (2 * i) from pk_mul 2 i]; exact nI_1 _, ag_n (by omega) (by omega), e.2.1, sumS_succ]
      simp only [lt_e, nI_1, bI_0]
      cases bt (nI j) i
      · rw [if_pos rfl, bd_some, if_neg (by simp)]
      · rw [if_neg (by simp), bd_some, if_pos rfl]) (fun fu => by
      rw [lpX9_brokeBy_5, show ic_ag μ 92 7 (3 : Int32) = ic_ag (α := Int32) μ 92 7 (nI 3) from rfl, m_ag92 (by omega), hm.2.2.2, if_pos (by exact nI_le (Nat.le_refl _) (by omega))]; rfl)
  have k : lpX9_brokeBy_5 μ (nI j) x 1000 0 0 = _ := k
  unfold fX9_brokeBy
  rw [k, bd_some, show ic_ag μ 92 7 (2 : Int32) = ic_ag (α := Int32) μ 92 7 (nI 2) from rfl, m_ag92 (by omega), hm.2.2.1]
  split <;> rfl
theorem allB_srch {f : Nat → Bool} : ∀ {n i : Nat}, (∀ j, i ≤ j → j < i + n → f j = true) ↔ srch (fun k => !f k) i n = none
  | n, i => by
    rw [srch_none]
    simp
theorem c_fit (e : env R μ q W H S P) (hn : n ≤ 6) (h1 : μ 61 4 = nI n) (h2 : ∀ k, k < n → μ 62 k = sn (2 * k) ∧ μ 63 k = sn (2 * k + 1)) : fX6_fits μ R (wgS q P j) = some (bI (fitB q sn S P n j)) := by
  have hr := e.1.2.1
  have hs : ∀ N i fu, i + N = n → N < fu → lpX6_fits_2 μ R (wgS q P j) fu (nI i) = some (srZ (srch (fun k => !decide ((if wgS q P j ≤ nI S * sn (2 * k) then (0 : Int32) else 1) = sn (2 * k + 1))) i N)) := by
    intro N
    induction N with
    | zero =>
      intro i fu hi hfu
      cases fu with
      | zero => omega
      | succ fu =>
        rw [lpX6_fits_2, h1, if_pos (nI_le (by omega) (by omega))]; rfl
    | succ N ih =>
      intro i fu hi hfu
      cases fu with
      | zero => omega
      | succ fu =>
        have h6 : ¬ (6 : Int32) ≤ nI i := nI_ge (b := 6) (by omega) (by omega)
        obtain ⟨g1, g2⟩ := h2 i (by omega)
        rw [lpX6_fits_2, h1, if_neg (nI_ge (by omega) (by omega)), if_neg h6, if_neg h6, ag_n (by omega) (by omega), g1, hr.2.2.1]
        have e1 : (if wgS q P j ≤ nI S * sn (2 * i) then some (0 : Int32) else some 1) = some (if wgS q P j ≤ nI S * sn (2 * i) then (0 : Int32) else 1) := by split <;> rfl
        rw [e1, bd_some, ag_n (by omega) (by omega), g2, lt_e, nI_1]
        show _ = some (srZ (if (!decide ((if wgS q P j ≤ nI S * sn (2 * i) then (0 : Int32) else 1) = sn (2 * i + 1))) = true then some i else srch (fun k => !decide ((if wgS q P j ≤ nI S * sn (2 * k) then (0 : Int32) else 1) = sn (2 * k + 1))) (i + 1) N))
        by_cases hq : (if wgS q P j ≤ nI S * sn (2 * i) then (0 : Int32) else 1) = sn (2 * i + 1)
        · rw [if_pos hq, if_neg (by simp [hq])]
          exact ih (i + 1) fu (by omega) (by omega)
        · rw [if_neg hq, rz_0, if_pos (by simp [hq])]; rfl
  have hk := hs n 0 1000 (by omega) (by omega)
  have hk : lpX6_fits_2 μ R (wgS q P j) 1000 0 = _ := hk
  unfold fX6_fits
  rw [hk, bd_some]
  cases hq : srch (fun k => !decide ((if wgS q P j ≤ nI S * sn (2 * k) then (0 : Int32) else 1) = sn (2 * k + 1))) 0 n with
  | none =>
    have := allB_srch.mpr hq
    have hf : fitB q sn S P n j = true := allB_t.mpr (fun k hk => this k (by omega) (by omega))
    rw [hf]
    show ic_rz 1 (some 1) = _
    rw [rz_1]; rfl
  | some k =>
    have hf : fitB q sn S P n j = false := by
      cases hc : fitB q sn S P n j
      · rfl
      · have := allB_srch.mp (fun k _ hk => allB_t.mp hc k (by omega) : ∀ k, 0 ≤ k → k < 0 + n → _)
        rw [this] at hq; cases hq
    rw [hf]; rfl
theorem m_fit (e : env R μ q W H S P) (hn : n ≤ 6) (hj : j < 64) (h1 : μ 90 18 = nI n) (h2 : μ 104 = sn) : fX9_isSo μ (nI j) = some (bI (fitB q sn S P n j)) := by
  have k := for_M (lp := fun fu i y => lpX9_isSo_4 μ (nI j) fu y (nI i)) (M := fun i => bI (fitB q sn S P i j)) (fin := some (bI (fitB q sn S P n j))) n (by omega) (fun fu i hi => by
      rw [lpX9_isSo_4, h1, if_neg (nI_ge hi (by omega)), show (2 : Int32) * nI i = nI (2 * i) from pk_mul 2 i, ag_n (by omega) (by omega), h2, m_bb e hj, bd_some, show nI (2 * i) + 1 = nI (2 * i + 1) from nI_1 _, ag_n (by omega) (by omega), h2]
      simp only [lt_e, nI_1, bI_0]
      show _ = lpX9_isSo_4 μ (nI j) fu (bI (fitB q sn S P i j && decide ((if wgS q P j ≤ nI S * sn (2 * i) then (0 : Int32) else 1) = sn (2 * i + 1)))) _
      cases fitB q sn S P i j
      · rfl
      · rw [if_neg (by simp)]
        by_cases hq : (if wgS q P j ≤ nI S * sn (2 * i) then (0 : Int32) else 1) = sn (2 * i + 1)
        · rw [if_pos hq, bd_some]; simp [hq, bI]
        · rw [if_neg hq, bd_some]; simp [hq, bI]) (fun fu => by
      rw [lpX9_isSo_4, h1, if_pos (by exact nI_le (Nat.le_refl _) (by omega))])
  have k : lpX9_isSo_4 μ (nI j) 1000 1 0 = _ := k
  unfold fX9_isSo
  rw [k, bd_some, rz_b]
end WHO
theorem cnt_mono {f : Nat → Bool} {i j : Nat} (h : i ≤ j) : cnt f i ≤ cnt f j := by
  obtain ⟨k, rfl⟩ : ∃ k, j = i + k := ⟨j - i, by omega⟩
  rw [cnt_add]; omega
theorem cnt_s (f : Nat → Bool) (n : Nat) : cnt f (n + 1) = cnt f n + cond (f n) 1 0 := rfl
/-- the list of those that fit -/
def lstI (ft : Nat → Bool) (wg : Nat → Int32) (i : Nat) (m : ic_M) : Prop := ∀ j, j < i → ft j = true → m 64 (cnt ft j) = nI j ∧ m 65 (cnt ft j) = wg j
theorem c_many {sw : Nat} {μ : ic_M} {q sn : Nat → Int32} {W H S P n : Nat} (e : env (ic_ld sw) μ q W H S P) (hn : n ≤ 6) (h1 : μ 61 4 = nI n) (h2 : ∀ k, k < n → μ 62 k = sn (2 * k) ∧ μ 63 k = sn (2 * k + 1)) : ∃ μ', fX6_howMany μ (ic_ld sw) = some (nI (cnt (fitB q sn S P n) (2 ^ P)), μ') ∧ lstI (fitB q sn S P n) (wgS q P) (2 ^ P) μ' ∧ ∀ b, b ≠ 64 → b ≠ 65 → μ' b = μ b := by
  obtain ⟨ho, hr, hm, hl, hpp⟩ := id e.1
  have hP := rOK_P ho
  have h64 := pow_P hP
  have hld := ld_hi sw
  have cls := for_R (lp := fun fu i (y : Int32 × ic_M) => lpX6_howMany_4 (ic_ld sw) fu y.1 (nI i) y.2) (Q := fun y => y.1 = nI (cnt (fitB q sn S P n) (2 ^ P)) ∧ lstI (fitB q sn S P n) (wgS q P) (2 ^ P) y.2 ∧ ∀ b, b ≠ 64 → b ≠ 65 → y.2 b = μ b) (2 ^ P) (by omega) (fun i y => y.1 = nI (cnt (fitB q sn S P n) i) ∧ lstI (fitB q sn S P n) (wgS q P) i y.2 ∧ ∀ b, b ≠ 64 → b ≠ 65 → y.2 b = μ b) (fun fu i y hi hI2 => by
    obtain ⟨i1, i2, i3⟩ := hI2
    have e1 : env (ic_ld sw) y.2 q W H S P := env_fr (fun b hb => i3 b (by omega) (by omega)) e
    have hcl := cnt_le (fitB q sn S P n) i
    rw [lpX6_howMany_4, e1.1.2.1.2.2.2.2, shl_P P (by omega), if_neg (nI_ge hi (by omega)), c_wg e1 (by omega), bd_some, c_fit (sn := sn) e1 hn (by rw [i3 61 (by omega) (by omega)]; exact h1) (fun k hk => by rw [i3 62 (by omega) (by omega), i3 63 (by omega) (by omega)]; exact h2 k hk), bd_some, i1]
    cases hf : fitB q sn S P n i
    · refine ⟨(nI (cnt (fitB q sn S P n) i), y.2), ?_, ?_, fun j hj hfj => ?_, i3⟩
      · rw [bI_f, if_pos rfl, bd_some, lt_e, nI_1]
      · show nI (cnt (fitB q sn S P n) i) = nI (cnt (fitB q sn S P n) i + cond (fitB q sn S P n i) 1 0)
        rw [hf]; rfl
      · by_cases hji : j = i
        · rw [hji, hf] at hfj; cases hfj
        · exact i2 j (by omega) hfj
    · have h6 : ¬ (64 : Int32) ≤ nI (cnt (fitB q sn S P n) i) := nI_ge (b := 64) (by omega) (by omega)
      refine ⟨(nI (cnt (fitB q sn S P n) i + 1), ic_up (ic_up y.2 64 (cnt (fitB q sn S P n) i) (nI i)) 65 (cnt (fitB q sn S P n) i) (wgS q P i)), ?_, ?_, fun j hj hfj => ?_, fun b b1 b2 => ?_⟩
      · rw [bI_t, if_neg one_ne0, if_neg h6, if_neg h6, as_n (by omega) (by omega), as_n (by omega) (by omega), lt_e, bd_some, lt_e, nI_1, nI_1]
      · show nI (cnt (fitB q sn S P n) i + 1) = nI (cnt (fitB q sn S P n) i + cond (fitB q sn S P n i) 1 0)
        rw [hf]; rfl
      · show ic_up (ic_up y.2 64 (cnt (fitB q sn S P n) i) (nI i)) 65 (cnt (fitB q sn S P n) i) (wgS q P i) 64 (cnt (fitB q sn S P n) j) = nI j ∧ ic_up (ic_up y.2 64 (cnt (fitB q sn S P n) i) (nI i)) 65 (cnt (fitB q sn S P n) i) (wgS q P i) 65 (cnt (fitB q sn S P n) j) = wgS q P j
        by_cases hji : j = i
        · subst hji
          rw [ic_up_ne (by omega), ic_up_eq, pk_us, ic_up_eq, pk_us]
          exact ⟨rfl, rfl⟩
        · have hlt : cnt (fitB q sn S P n) j < cnt (fitB q sn S P n) i := by
            have h3 := cnt_mono (f := fitB q sn S P n) (show j + 1 ≤ i by omega)
            rw [cnt_s, hfj] at h3
            simp at h3
            omega
          rw [ic_up_ne (by omega), ic_up_eq, pk_un (by omega), ic_up_eq, pk_un (by omega), ic_up_ne (by omega)]
          exact i2 j (by omega) hfj
      · show ic_up (ic_up y.2 64 (cnt (fitB q sn S P n) i) (nI i)) 65 (cnt (fitB q sn S P n) i) (wgS q P i) b = μ b
        rw [ic_up_ne b2, ic_up_ne b1, i3 b b1 b2]) (fun fu y hI2 => ⟨y, by
    rw [lpX6_howMany_4, hI2.2.2 (ic_ld sw) (by omega) (by omega), hr.2.2.2.2, shl_P P (by omega), if_pos (by exact nI_le (Nat.le_refl _) (by omega))], hI2⟩) (0, μ) ⟨rfl, fun j hj => absurd hj (by omega), fun _ _ _ => rfl⟩
  obtain ⟨y1, c1, c2, c3, c4⟩ := cls
  have c1 : lpX6_howMany_4 (ic_ld sw) 1000 0 0 μ = some y1 := c1
  refine ⟨y1.2, ?_, c3, c4⟩
  unfold fX6_howMany
  rw [c1, bd_some, ← c2]
/-! the reference's walk over the sets -/
def whS (ft : Nat → Bool) (j : Nat) (y : Int32 × Int32 × Int32) : Int32 × Int32 × Int32 := if ft j = true then (y.1 + 1, if y.1 = 0 then nI j else y.2.1, y.2.2 &&& nI j) else y
theorem m_who {sw : Nat} {μ : ic_M} {q sn : Nat → Int32} {W H S P n : Nat} {x1 : Int32} {y0 : Int32 × Int32 × Int32} (e : env (ic_ld sw) μ q W H S P) (hn : n ≤ 6) (h1 : μ 90 18 = nI n) (h2 : μ 104 = sn) : lpX9_who_31 μ x1 1000 y0.1 y0.2.1 y0.2.2 0 = some (itr (whS (fitB q sn S P n)) 0 (2 ^ P) y0) := by
  obtain ⟨ho, hr, hm, hl, hpp⟩ := id e.1
  have hP := rOK_P ho
  have h64 := pow_P hP
  have := for_e (lp := fun fu i (y : Int32 × Int32 × Int32) => lpX9_who_31 μ x1 fu y.1 y.2.1 y.2.2 (nI i)) (fin := some) (g := whS (fitB q sn S P n)) (2 ^ P) (fun _ _ => True) (fun fu i y hi _ => by
    rw [lpX9_who_31, show ∀ T : Int32 → Option (Int32 × Int32 × Int32), ic_ag μ 92 7 (3 : Int32) T = ic_ag μ 92 7 (nI 3) T from fun _ => rfl, m_ag92 (by omega), hm.2.2.2, shl_P P (by omega), if_neg (nI_ge hi (by omega)), m_fit (sn := sn) e hn (by omega) h1 h2, bd_some]
    simp only [lt_e, nI_1]
    unfold whS
    cases fitB q sn S P n i
    · rw [bI_f, if_pos rfl, bd_some, if_neg (by simp)]
    · have e1 : (if y.1 = 0 then some (nI i) else some y.2.1) = some (if y.1 = 0 then nI i else y.2.1) := by split <;> rfl
      rw [bI_t, if_neg one_ne0, e1, bd_some, bd_some, if_pos rfl]) (fun _ _ _ _ => trivial) (fun fu y _ => by
    rw [lpX9_who_31, show ∀ T : Int32 → Option (Int32 × Int32 × Int32), ic_ag μ 92 7 (3 : Int32) T = ic_ag μ 92 7 (nI 3) T from fun _ => rfl, m_ag92 (by omega), hm.2.2.2, shl_P P (by omega), if_pos (by exact nI_le (Nat.le_refl _) (by omega))]) (2 ^ P) 1000 0 y0 (by omega) (by omega) trivial
  exact this
theorem srch_snoc {f : Nat → Bool} : ∀ (n i : Nat), srch f i (n + 1) = (srch f i n).or (if f (i + n) = true then some (i + n) else none)
  | 0, i => by
    show (if f i = true then some i else none) = _
    rfl
  | n + 1, i => by
    show (if f i = true then some i else srch f (i + 1) (n + 1)) = (if f i = true then some i else srch f (i + 1) n).or _
    by_cases h : f i = true
    · rw [if_pos h, if_pos h]; rfl
    · rw [if_neg h, if_neg h, srch_snoc n (i + 1), show i + 1 + n = i + (n + 1) by omega]
theorem cnt_srch {f : Nat → Bool} {n : Nat} : cnt f n = 0 ↔ srch f 0 n = none := by
  rw [srch_none]
  constructor
  · intro h j _ hj
    cases hf : f j
    · rfl
    · have := cnt_pos (show j < n by omega) hf
      omega
  · intro h
    exact cnt_0 (fun k hk => h k (by omega) (by omega))
theorem srch_some {f : Nat → Bool} : ∀ {n i j : Nat}, srch f i n = some j → i ≤ j ∧ j < i + n ∧ f j = true ∧ ∀ k, i ≤ k → k < j → f k = false
  | 0, i, j, h => by cases h
  | n + 1, i, j, h => by
    have h : (if f i = true then some i else srch f (i + 1) n) = some j := h
    by_cases hf : f i = true
    · rw [if_pos hf] at h
      cases h
      exact ⟨Nat.le_refl _, by omega, hf, fun k h1 h2 => absurd h1 (by omega)⟩
    · rw [if_neg hf] at h
      obtain ⟨h1, h2, h3, h4⟩ := srch_some h
      refine ⟨by omega, by omega, h3, fun k k1 k2 => ?_⟩
      by_cases hk : k = i
      · subst hk; simpa using hf
      · exact h4 k (by omega) k2
theorem wh_inv {ft : Nat → Bool} {M : Int32} : ∀ i, i ≤ 64 → itr (whS ft) 0 i (0, -1, M) = (nI (cnt ft i), srV (srch ft 0 i), itr (fun j s => if ft j = true then s &&& nI j else s) 0 i M)
  | 0, _ => rfl
  | i + 1, hi => by
    have hc := cnt_le ft i
    rw [itr_succ, itr_succ, Nat.zero_add, wh_inv i (by omega), cnt_s, srch_snoc, Nat.zero_add]
    unfold whS
    cases hf : ft i
    · simp
    · rw [if_pos rfl, if_pos rfl, if_pos rfl]
      cases hs : srch ft 0 i with
      | none =>
        rw [cnt_srch.mpr hs]; rfl
      | some j =>
        have h0 : ¬ cnt ft i = 0 := fun h => by
          rw [cnt_srch.mp h] at hs; cases hs
        rw [if_neg (nI_ne0 (by omega) (by omega)), nI_1]; rfl
theorem m1_and (x : Int32) : (-1 : Int32) &&& x = x := by
  apply b_ext
  intro i hi
  rw [b_and, b_m1 i hi]; rfl
theorem and_r {ft : Nat → Bool} {wg : Nat → Int32} {m : ic_M} {N : Nat} (hl : lstI ft wg N m) : ∀ i, i ≤ N → itr (fun k s => s &&& m 64 k) 0 (cnt ft i) (-1) = itr (fun j s => if ft j = true then s &&& nI j else s) 0 i (-1)
  | 0, _ => rfl
  | i + 1, hi => by
    rw [itr_succ, Nat.zero_add, ← and_r hl i (by omega), cnt_s]
    cases hf : ft i
    · rw [if_neg (by simp)]; rfl
    · rw [if_pos rfl]
      show itr _ 0 (cnt ft i + 1) (-1) = _
      rw [itr_succ, Nat.zero_add, (hl i (by omega) hf).1]
theorem low_P : ∀ P, P < 7 → ∀ j, j < 64 → j < 2 ^ P → (nI (2 ^ P) - 1) &&& nI j = nI j := by decide +kernel
theorem and_m {ft : Nat → Bool} {P : Nat} (hP : P ≤ 6) : ∀ i, i ≤ 2 ^ P → (cnt ft i = 0 → itr (fun j s => if ft j = true then s &&& nI j else s) 0 i (nI (2 ^ P) - 1) = nI (2 ^ P) - 1 ∧ itr (fun j s => if ft j = true then s &&& nI j else s) 0 i (-1) = -1) ∧ (¬ cnt ft i = 0 → itr (fun j s => if ft j = true then s &&& nI j else s) 0 i (nI (2 ^ P) - 1) = itr (fun j s => if ft j = true then s &&& nI j else s) 0 i (-1))
  | 0, _ => ⟨fun _ => ⟨rfl, rfl⟩, fun h => absurd rfl h⟩
  | i + 1, hi => by
    have h64 := pow_P hP
    obtain ⟨h1, h2⟩ := and_m (ft := ft) hP i (by omega)
    rw [itr_succ, itr_succ, Nat.zero_add, cnt_s]
    cases hf : ft i
    · rw [if_neg (by simp), if_neg (by simp)]
      exact ⟨h1, h2⟩
    · rw [if_pos rfl, if_pos rfl]
      refine ⟨fun h => absurd h (by simp), fun _ => ?_⟩
      by_cases h0 : cnt ft i = 0
      · rw [(h1 h0).1, (h1 h0).2, m1_and, low_P P (by omega) i (by omega) (by omega)]
      · rw [h2 h0]
theorem pu_who {sw : Nat} {μ : ic_M} (hI : ic_I sw μ) (a1 : Int32) : ∃ (v : Int32) (μ1 : ic_M), fX8_who sw μ a1 = some (v, μ1) ∧ fX9_who μ1 a1 = some v ∧ ic_I sw μ1 := by
  obtain ⟨W, H, S, P, h⟩ := id hI
  obtain ⟨ho, hr, hm, hl, -⟩ := h.1
  have hP := rOK_P ho
  have h64 := pow_P hP
  obtain ⟨n, n1, n2, n3, n4⟩ := h.2.2.2.2.2.2.2.1
  have E := env_J h
  obtain ⟨m', k1, k2, k3⟩ := c_many (sn := μ 104) E n1 n2 (fun k hk => ⟨(n4 k hk).1, (n4 k hk).2.1⟩)
  have hI' : ic_I sw m' := J_tr hI (fun b h1 h2 h3 h4 h5 => k3 b h2 h3)
  generalize hft : fitB (μ 94) (μ 104) S P n = ft at k1 k2
  have hcl := cnt_le ft (2 ^ P)
  have E' : env (ic_ld sw) m' (μ 94) W H S P := env_fr (fun b hb => k3 b (by omega) (by omega)) E
  have mw : ∀ x1 M, lpX9_who_31 m' x1 1000 0 (-1) M 0 = some (nI (cnt ft (2 ^ P)), srV (srch ft 0 (2 ^ P)), itr (fun j s => if ft j = true then s &&& nI j else s) 0 (2 ^ P) M) := fun x1 M => by
    have := m_who (x1 := x1) (y0 := ((0 : Int32), (-1 : Int32), M)) (sn := μ 104) E' n1 (by rw [k3 90 (by omega) (by omega)]; exact n3) (k3 104 (by omega) (by omega))
    rw [hft, wh_inv _ h64] at this
    exact this
  have mside : ∀ x, wi x 0 2 = true → fX9_who m' x = Option.bind (if x = 0 then some (nI (cnt ft (2 ^ P))) else (if x = (1 : Int32) then some (srV (srch ft 0 (2 ^ P))) else (if nI (cnt ft (2 ^ P)) = 0 then some (0 : Int32) else some (itr (fun j s => if ft j = true then s &&& nI j else s) 0 (2 ^ P) (nI (2 ^ P) - 1))))) some := fun x hx => by
    unfold fX9_who
    rw [in_e, bd_some, hx, bI_t, if_neg one_ne0, show ic_ag m' 92 7 (3 : Int32) = ic_ag (α := Int32) m' 92 7 (nI 3) from rfl, m_ag92 (by omega), E'.1.2.2.1.2.2.2, shl_P P (by omega), lt_e, mw, bd_some]
  by_cases h0 : a1 = 0
  · subst h0
    refine ⟨nI (cnt ft (2 ^ P)), m', ?_, ?_, hI'⟩
    · unfold fX8_who
      rw [if_pos rfl, k1, bd_some]
    · rw [mside _ (by decide), if_pos rfl]; rfl
  by_cases h1 : a1 = 1
  · subst h1
    refine ⟨srV (srch ft 0 (2 ^ P)), m', ?_, ?_, hI'⟩
    · unfold fX8_who fX6_least
      rw [if_neg one_ne0, if_pos rfl, k1, bd_some]
      cases hs : srch ft 0 (2 ^ P) with
      | none =>
        rw [cnt_srch.mpr hs]; rfl
      | some j =>
        obtain ⟨j1, j2, j3, j4⟩ := srch_some hs
        have hpos := cnt_pos (show j < 2 ^ P by omega) j3
        have e0 : cnt ft j = 0 := cnt_0 (fun k hk => j4 k (by omega) hk)
        have := (k2 j (by omega) j3).1
        rw [e0] at this
        dsimp only
        rw [if_neg (nI_nle hpos (by omega)), show ic_ag m' 64 64 (0 : Int32) = ic_ag (α := Int32) m' 64 64 (nI 0) from rfl, ag_n (by omega) (by omega), this]; rfl
    · rw [mside _ (by decide), if_neg one_ne0, if_pos rfl]; rfl
  by_cases h2 : a1 = 2
  · subst h2
    have cside : fX6_sure μ (ic_ld sw) = some (if cnt ft (2 ^ P) = 0 then 0 else itr (fun j s => if ft j = true then s &&& nI j else s) 0 (2 ^ P) (-1), m') := by
      unfold fX6_sure
      rw [k1, bd_some]
      dsimp only
      by_cases hz : cnt ft (2 ^ P) = 0
      · rw [hz, if_pos rfl, if_pos (by decide), bd_some, show (1000 : Nat) = 999 + 1 from rfl, lpX6_sure_24, if_pos (by decide)]; rfl
      · obtain ⟨c, hc⟩ : ∃ c, cnt ft (2 ^ P) = c + 1 := ⟨cnt ft (2 ^ P) - 1, by omega⟩
        rw [if_neg (nI_nle (by omega) (by omega)), if_neg hz, show ic_ag m' 64 64 (0 : Int32) = ic_ag (α := Int32) m' 64 64 (nI 0) from rfl, ag_n (by omega) (by omega), bd_some, ← and_r k2 (2 ^ P) (Nat.le_refl _), hc]
        have key := for_e (lp := fun fu i s => lpX6_sure_24 m' (nI (c + 1)) fu s (nI i)) (fin := some) (g := fun k s => s &&& m' 64 k) (c + 1) (fun _ _ => True) (fun fu i s hi _ => by
          rw [lpX6_sure_24, if_neg (nI_ge hi (by omega)), if_neg (show ¬ (64 : Int32) ≤ nI i from nI_ge (b := 64) (by omega) (by omega)), ag_n (by omega) (by omega), lt_e, lt_e, nI_1]) (fun _ _ _ _ => trivial) (fun fu s _ => by
          rw [lpX6_sure_24, if_pos (by exact nI_le (Nat.le_refl _) (by omega))]) c 1000 1 (m' 64 0) (by omega) (by omega) trivial
        have key : lpX6_sure_24 m' (nI (c + 1)) 1000 (m' 64 0) 1 = _ := key
        rw [key, bd_some]
        show some (itr _ 1 c (m' 64 0), m') = some (itr _ 1 c ((-1) &&& m' 64 0), m')
        rw [m1_and]
    refine ⟨if cnt ft (2 ^ P) = 0 then 0 else itr (fun j s => if ft j = true then s &&& nI j else s) 0 (2 ^ P) (-1), m', ?_, ?_, hI'⟩
    · unfold fX8_who
      rw [if_neg (by decide), if_neg (by decide), if_pos rfl, cside]; rfl
    · rw [mside _ (by decide), if_neg (by decide), if_neg (by decide)]
      by_cases hz : cnt ft (2 ^ P) = 0
      · rw [hz, if_pos (by decide), if_pos rfl]; rfl
      · rw [if_neg (nI_ne0 (by omega) (by omega)), if_neg hz, (and_m hP (2 ^ P) (Nat.le_refl _)).2 hz]; rfl
  · refine ⟨-1000000002, μ, ?_, ?_, hI⟩
    · unfold fX8_who
      rw [if_neg h0, if_neg h1, if_neg h2]
    · unfold fX9_who
      have : wi a1 0 2 = false := by
        cases hw : wi a1 0 2
        · rfl
        · obtain ⟨k, -, hk, rfl⟩ := (wi_n (a := 0) (b := 2) (by omega) (by omega)).mp hw
          exfalso
          have : k = 0 ∨ k = 1 ∨ k = 2 := by omega
          rcases this with rfl | rfl | rfl
          · exact h0 rfl
          · exact h1 rfl
          · exact h2 rfl
      rw [in_e, bd_some, this, bI_f, if_pos rfl]
/-! ask -/
theorem cnt_r {ft : Nat → Bool} {wg : Nat → Int32} {m : ic_M} {N : Nat} {x : Int32} (hl : lstI ft wg N m) : ∀ i, i ≤ N → cnt (fun k => decide (¬ m 65 k ≤ x)) (cnt ft i) = cnt (fun j => ft j && decide (¬ wg j ≤ x)) i
  | 0, _ => rfl
  | i + 1, hi => by
    rw [cnt_s (fun j => ft j && decide (¬ wg j ≤ x)), ← cnt_r hl i (by omega), cnt_s]
    cases hf : ft i
    · rfl
    · show cnt _ (cnt ft i + 1) = _
      rw [cnt_s, (hl i (by omega) hf).2]
      rfl
def asF (A : Nat → Int32) (M : Int32) (t : Nat) (y : Int32 × Int32) : Int32 × Int32 := if y.2 ≤ (if A t < M - A t then M - A t else A t) then y else (nI t, if A t < M - A t then M - A t else A t)
theorem pu_ask {sw : Nat} {μ : ic_M} (hI : ic_I sw μ) : ∃ (v : Int32) (μ1 : ic_M), fX8_ask sw μ = some (v, μ1) ∧ fX9_ask μ1 = some v ∧ ic_I sw μ1 := by
  obtain ⟨W, H, S, P, h⟩ := id hI
  obtain ⟨ho, hr, hm, hl, -⟩ := h.1
  have hP := rOK_P ho
  have h64 := pow_P hP
  have hld := ld_hi sw
  obtain ⟨n, n1, n2, n3, n4⟩ := h.2.2.2.2.2.2.2.1
  have E := env_J h
  obtain ⟨m', k1, k2, k3⟩ := c_many (sn := μ 104) E n1 n2 (fun k hk => ⟨(n4 k hk).1, (n4 k hk).2.1⟩)
  have hI' : ic_I sw m' := J_tr hI (fun b h1 h2 h3 h4 h5 => k3 b h2 h3)
  have E' : env (ic_ld sw) m' (μ 94) W H S P := env_fr (fun b hb => k3 b (by omega) (by omega)) E
  have n3' : m' 90 18 = nI n := by rw [k3 90 (by omega) (by omega)]; exact n3
  have n4' : m' 104 = μ 104 := k3 104 (by omega) (by omega)
  have mfit : ∀ j, j < 64 → fX9_isSo m' (nI j) = some (bI (fitB (μ 94) (μ 104) S P n j)) := fun j hj => m_fit E' n1 hj n3' n4'
  have mw : ∀ x1 M, lpX9_who_31 m' x1 1000 0 (-1) M 0 = some (nI (cnt (fitB (μ 94) (μ 104) S P n) (2 ^ P)), srV (srch (fitB (μ 94) (μ 104) S P n) 0 (2 ^ P)), itr (fun j s => if fitB (μ 94) (μ 104) S P n j = true then s &&& nI j else s) 0 (2 ^ P) M) := fun x1 M => by
    have := m_who (x1 := x1) (y0 := ((0 : Int32), (-1 : Int32), M)) (sn := μ 104) E' n1 n3' n4'
    rw [wh_inv _ h64] at this
    exact this
  generalize hft : fitB (μ 94) (μ 104) S P n = ft at k1 k2 mfit mw
  have hcl := cnt_le ft (2 ^ P)
  generalize hA : (fun t => nI (cnt (fun j => ft j && decide (¬ wgS (μ 94) P j ≤ nI S * nI t)) (2 ^ P))) = A
  generalize hM : nI (cnt ft (2 ^ P)) = M
  have cab : ∀ t, fX6_howManyAbove m' (nI S * nI t) M = some (A t) := fun t => by
    have key := for_M (lp := fun fu i s => lpX6_howManyAbove_5 m' (nI S * nI t) M fu s (nI i)) (M := fun i => nI (cnt (fun k => decide (¬ m' 65 k ≤ nI S * nI t)) i)) (fin := some (nI (cnt (fun k => decide (¬ m' 65 k ≤ nI S * nI t)) (cnt ft (2 ^ P))))) (cnt ft (2 ^ P)) (by omega) (fun fu i hi => by
      rw [lpX6_howManyAbove_5, ← hM, if_neg (nI_ge hi (by omega)), if_neg (show ¬ (64 : Int32) ≤ nI i from nI_ge (b := 64) (by omega) (by omega)), ag_n (by omega) (by omega)]
      simp only [lt_e, nI_1]
      show _ = lpX6_howManyAbove_5 m' _ _ fu (nI (cnt (fun k => decide (¬ m' 65 k ≤ nI S * nI t)) i + cond (decide (¬ m' 65 i ≤ nI S * nI t)) 1 0)) _
      by_cases hq : m' 65 i ≤ nI S * nI t
      · rw [if_pos hq, bd_some]; simp [hq]
      · rw [if_neg hq, bd_some]; simp [hq]) (fun fu => by
      rw [lpX6_howManyAbove_5, ← hM, if_pos (by exact nI_le (Nat.le_refl _) (by omega))])
    have key : lpX6_howManyAbove_5 m' (nI S * nI t) M 1000 0 0 = _ := key
    unfold fX6_howManyAbove
    rw [key, bd_some, cnt_r k2 (2 ^ P) (Nat.le_refl _), ← hA]
  have mab : ∀ x1 x2 x3 t, lpX9_ask_26 m' x1 x2 x3 (nI t) 1000 0 0 = some (A t) := fun x1 x2 x3 t => by
    have key := for_M (lp := fun fu i s => lpX9_ask_26 m' x1 x2 x3 (nI t) fu s (nI i)) (M := fun i => nI (cnt (fun j => ft j && decide (¬ wgS (μ 94) P j ≤ nI S * nI t)) i)) (fin := some (nI (cnt (fun j => ft j && decide (¬ wgS (μ 94) P j ≤ nI S * nI t)) (2 ^ P)))) (2 ^ P) (by omega) (fun fu i hi => by
      rw [lpX9_ask_26, show ic_ag m' 92 7 (3 : Int32) = ic_ag (α := Int32) m' 92 7 (nI 3) from rfl, m_ag92 (by omega), E'.1.2.2.1.2.2.2, shl_P P (by omega), if_neg (nI_ge hi (by omega)), mfit i (by omega), bd_some, m_bb E' (by omega)]
      simp only [lt_e, nI_1, bd_some, bI_0]
      show _ = lpX9_ask_26 m' _ _ _ _ fu (nI (cnt (fun j => ft j && decide (¬ wgS (μ 94) P j ≤ nI S * nI t)) i + cond (ft i && decide (¬ wgS (μ 94) P i ≤ nI S * nI t)) 1 0)) _
      cases ft i
      · rw [if_pos rfl, bd_some, Int32.add_zero]; rfl
      · rw [if_neg (by simp), bd_some]
        by_cases hq : wgS (μ 94) P i ≤ nI S * nI t
        · rw [if_pos hq, Int32.add_zero]; simp [hq]
        · rw [if_neg hq, nI_1]; simp [hq]) (fun fu => by
      rw [lpX9_ask_26, show ic_ag m' 92 7 (3 : Int32) = ic_ag (α := Int32) m' 92 7 (nI 3) from rfl, m_ag92 (by omega), E'.1.2.2.1.2.2.2, shl_P P (by omega), if_pos (by exact nI_le (Nat.le_refl _) (by omega))])
    rw [← hA]
    exact key
  have cls := for_e (lp := fun fu i (y : Int32 × Int32) => lpX6_bestQuestion_14 m' (ic_ld sw) M fu y.1 y.2 (nI i)) (fin := fun y => some y.1) (g := asF A M) 61 (fun _ _ => True) (fun fu i y hi _ => by
    rw [lpX6_bestQuestion_14, if_neg (show ¬ (60 : Int32) < nI i from nI_nlt (a := 60) (by omega) (by omega)), E'.1.2.1.2.2.1, cab, bd_some, lt_e]
    unfold asF
    by_cases hq : y.2 ≤ (if A i < M - A i then M - A i else A i)
    · rw [if_pos hq, bd_some, lt_e, nI_1, if_pos hq]
    · rw [if_neg hq, bd_some, lt_e, nI_1, if_neg hq]) (fun _ _ _ _ => trivial) (fun fu y _ => by
    rw [lpX6_bestQuestion_14, if_pos (by decide)]) 60 1000 1 (-1, M) (by omega) (by omega) trivial
  have cls : lpX6_bestQuestion_14 m' (ic_ld sw) M 1000 (-1) M 1 = some (itr (asF A M) 1 60 (-1, M)).1 := cls
  have mdl := for_e (lp := fun fu i (y : Int32 × Int32) => lpX9_ask_13 m' M fu y.1 y.2 (nI i)) (fin := fun y => some y.1) (g := asF A M) 61 (fun _ _ => True) (fun fu i y hi _ => by
    rw [lpX9_ask_13, if_neg (show ¬ (61 : Int32) ≤ nI i from nI_ge (b := 61) hi (by omega)), mab, bd_some, gre_e, bd_some, les_e]
    simp only [lt_e, nI_1, bd_some]
    unfold asF
    by_cases hq : y.2 ≤ (if A i < M - A i then M - A i else A i)
    · rw [if_pos hq, bd_some, if_pos hq, ← min_e, if_pos hq]
    · rw [if_neg hq, bd_some, if_neg hq, ← min_e, if_neg hq]) (fun _ _ _ _ => trivial) (fun fu y _ => by
    rw [lpX9_ask_13, if_pos (by decide)]) 60 1000 1 (-1, M) (by omega) (by omega) trivial
  have mdl : lpX9_ask_13 m' M 1000 (-1) M 1 = some (itr (asF A M) 1 60 (-1, M)).1 := mdl
  refine ⟨(itr (asF A M) 1 60 (-1, M)).1, m', ?_, ?_, hI'⟩
  · unfold fX8_ask fX6_bestQuestion
    rw [k1, bd_some, hM]
    dsimp only
    rw [cls]; rfl
  · unfold fX9_ask fX9_who
    rw [in_e, bd_some, show wi (0 : Int32) 0 2 = true from by decide, bI_t, if_neg one_ne0, show ic_ag m' 92 7 (3 : Int32) = ic_ag (α := Int32) m' 92 7 (nI 3) from rfl, m_ag92 (by omega), lt_e, mw, bd_some, hM, if_pos rfl, bd_some, bd_some, mdl, bd_some]
