/-! ===== tried alone: then, when, noMore ===== -/
theorem m_tries {μ : ic_M} {s : iceS} (hA : rwA μ 98 s) : ∃ m', fX9_tries μ = some m' ∧ rwA m' 99 s ∧ ∀ b, b ≠ 99 → m' b = μ b := by
  obtain ⟨m2, j1, j2, j3, j4⟩ := m_copies (μ := μ) (r0 := 98) (r2 := 99) (x := 0) (y := 0) (n := 28) (by omega) (by rw [il_m.1]; omega) (by rw [il_m.2.1]; omega) (by rw [il_m.1]; omega) (by rw [il_m.2.1]; omega) (by omega)
  refine ⟨m2, ?_, rwA_O.mpr (rwO_cp j2 (rwA_O.mp hA)), j4⟩
  unfold fX9_tries
  rw [show fX9_copies μ 98 (0 : Int32) 99 (0 : Int32) (28 : Int32) = fX9_copies μ 98 (nI 0) 99 (nI 0) (nI 28) from rfl, j1, bd_some]
def alnS (s : iceS) : iceS := (sI s, fun _ => -1, sSn s, sNi s, sOw s, sBr s)
theorem m_alone {μ : ic_M} {s : iceS} (hA : rwA μ 98 s) : ∃ m', fX9_triesAlone μ = some m' ∧ rwA m' 99 (alnS s) ∧ ∀ b, b ≠ 99 → m' b = μ b := by
  obtain ⟨m1, k1, k2, k3⟩ := m_tries hA
  have k := for_M (lp := fun fu i x => lpX9_triesAlone_6 fu (nI i) x) (M := pm m1 99 18 (fun _ => true) (fun _ => -1)) (fin := some (pm m1 99 18 (fun _ => true) (fun _ => -1) 6)) 6 (by omega) (fun fu i hi => by
      rw [lpX9_triesAlone_6, if_neg (show ¬ (6 : Int32) ≤ nI i from nI_ge (b := 6) hi (by omega)), show (18 : Int32) + nI i = nI (18 + i) from nI_add 18 i, as_n (by omega) (by omega), lt_e, nI_1, ← pm_t (i := i) rfl]) (fun fu => by
      rw [lpX9_triesAlone_6, if_pos (by decide)])
  rw [pm_0] at k
  have k : lpX9_triesAlone_6 1000 0 m1 = _ := k
  refine ⟨_, by unfold fX9_triesAlone; rw [k1, bd_some, k]; rfl, ⟨fun c hc => ?_, fun p hp => ?_, ?_, ?_, ?_, ?_⟩, fun b hb => ?_⟩
  · rw [pm_ge (by omega)]; exact k2.1 c hc
  · rw [pm_in hp, if_pos rfl]; rfl
  · rw [pm_ge (by omega)]; exact k2.2.2.1
  · rw [pm_ge (by omega)]; exact k2.2.2.2.1
  · rw [pm_ge (by omega)]; exact k2.2.2.2.2.1
  · rw [pm_ge (by omega)]; exact k2.2.2.2.2.2
  · rw [← k3 b hb]; funext x; exact pm_ne hb x
theorem sumS_0 {f : Nat → Int32} : ∀ {P : Nat}, (∀ p, p < P → f p = 0) → sumS P f = 0
  | 0, _ => rfl
  | P + 1, h => by
    rw [sumS_succ, sumS_0 (fun p hp => h p (by omega)), h P (by omega)]; rfl
theorem ov_alone {q : Nat → Int32} {W H S P c : Nat} {s : iceS} (hS : S ≤ 30) (hg : gI (sI s)) (hp : ∀ p, p < P → sP s p = -1) (hc : c < 18) : ovS q W H S P s c = false := by
  unfold ovS ovl ldS
  obtain ⟨n, hn, e⟩ := hg c hc
  have hSn : S * n ≤ 30 * 60 := Nat.mul_le_mul hS hn
  rw [sumS_0 (fun p hpp => by rw [hp p hpp, if_neg (fun e => m1_ne hc e.symm)]), sumS_0 (fun p hpp => by rw [hp p hpp, adjX_neg m1_lt]; rfl), e, pk_mul]
  have : (0 : Int32) ≤ nI (S * n) := nI_le (a := 0) (by omega) (by omega)
  simp [this]
/-- the one cell: inches, snow -/
def cel (μ0 : ic_M) (k0 c : Nat) (x : Nat × Bool) (i : Nat) : Nat × Bool := itr (fun i x => (inN x.1 (cldN μ0 (k0 + i)) (curN μ0 c) x.2, x.2 && decide (¬ cldN μ0 (k0 + i) ≤ 10))) 0 i x
theorem cel_1 (μ0 : ic_M) (k0 c : Nat) (x : Nat × Bool) (i : Nat) : cel μ0 k0 c x (i + 1) = (inN (cel μ0 k0 c x i).1 (cldN μ0 (k0 + i)) (curN μ0 c) (cel μ0 k0 c x i).2, (cel μ0 k0 c x i).2 && decide (¬ cldN μ0 (k0 + i) ≤ 10)) := by
  unfold cel
  rw [itr_succ, Nat.zero_add]
theorem cel_le {μ0 : ic_M} {k0 c : Nat} {x : Nat × Bool} (hx : x.1 ≤ 60) : ∀ i, (cel μ0 k0 c x i).1 ≤ 60
  | 0 => hx
  | i + 1 => by
    rw [cel_1]; exact inN_le (cel_le hx i)
def aloneI (μ0 : ic_M) (k0 c P : Nat) (x : Nat × Bool) (i : Nat) (s : iceS) : Prop := gI (sI s) ∧ (∀ p, p < P → sP s p = -1) ∧ sI s c = nI (cel μ0 k0 c x i).1 ∧ bt (sSn s) c = (cel μ0 k0 c x i).2 ∧ sNi s = nI (k0 + i)
theorem alone_1 {μ0 : ic_M} {q : Nat → Int32} {W H S P k0 c i : Nat} {x : Nat × Bool} {s : iceS} (hS : S ≤ 30) (hN : W * H ≤ 18) (hc : c < W * H) (hx : x.1 ≤ 60) (hk : k0 + i < 2 ^ 30) (h : aloneI μ0 k0 c P x i s) : aloneI μ0 k0 c P x (i + 1) (pasS μ0 q W H S P s) := by
  obtain ⟨h1, h2, h3, h4, h5⟩ := h
  have hkk : (sNi s).toNatClampNeg = k0 + i := by rw [h5, nI_clamp (by omega)]
  have g1 := frz_g (μ0 := μ0) hN h1
  have p1 : ∀ p, p < P → sP (frzS μ0 (W * H) s) p = -1 := h2
  have hce := cel_le (μ0 := μ0) (k0 := k0) (c := c) hx i
  refine ⟨brk_g g1, fun p hp => ?_, ?_, ?_, ?_⟩
  · have e : sP (brkS q W H S P (frzS μ0 (W * H) s)) p = -1 := by
      show (if p < P ∧ inS _ (sP s p) = true then -2 else sP s p) = -1
      rw [h2 p hp, inS_neg m1_lt, if_neg (by simp)]
    show (if p < P ∧ inS _ (sP (brkS q W H S P (frzS μ0 (W * H) s)) p) = true then -2 else sP (brkS q W H S P (frzS μ0 (W * H) s)) p) = -1
    rw [e, inS_neg m1_lt, if_neg (by simp)]
  · show (if c < W * H ∧ ovS q W H S P (frzS μ0 (W * H) s) c = true then 0 else sI (frzS μ0 (W * H) s) c) = _
    rw [ov_alone hS g1 p1 (by omega), if_neg (by simp), cel_1]
    show (if c < W * H then nI (inN (sI s c).toNatClampNeg (cldN μ0 (sNi s).toNatClampNeg) (curN μ0 c) (bt (sSn s) c)) else sI s c) = _
    rw [if_pos hc, hkk, h3, nI_clamp (by omega), h4]
  · show bt (if cldN μ0 (sNi s).toNatClampNeg ≤ 10 then 0 else sSn s) c = _
    rw [hkk, cel_1]
    by_cases h : cldN μ0 (k0 + i) ≤ 10
    · rw [if_pos h, b_0]; simp [h]
    · rw [if_neg h, h4]; simp [h]
  · show sNi s + 1 = _
    rw [h5, nI_1]; rfl
theorem al_v {P N : Nat} {s : iceS} (h : ∀ p, p < P → sP s p = -1) : ∀ p, p < P → vP N (sP s p) := fun p hp => Or.inr (Or.inl (h p hp))
theorem aft_b {v : Nat} {b : Bool} (hv : v ≤ 20) : (if bI b = 0 then some (0 : Int32) else (if nI v - 10 ≤ 0 then some (0 : Int32) else some (1 : Int32))) = some (bI (b && decide (¬ v ≤ 10))) := by
  simp only [cold_le hv]
  cases b
  · rfl
  · by_cases h : v ≤ 10
    · rw [bI_t, if_neg one_ne0, if_pos h]; simp [h, bI]
    · rw [bI_t, if_neg one_ne0, if_neg h]; simp [h, bI]
theorem pu_then {sw : Nat} {μ : ic_M} (hI : ic_I sw μ) (a1 a2 : Int32) : ∃ (v : Int32) (μ2 : ic_M), fX8_then sw μ a1 a2 = some v ∧ fX9_then μ a1 a2 = some (v, μ2) ∧ ic_I sw μ2 := by
  obtain ⟨W, H, S, P, h⟩ := id hI
  obtain ⟨ho, hr, hm, hl, -⟩ := h.1
  have hN := rOK_N ho
  have hP := rOK_P ho
  obtain ⟨s, s1, s2, s3⟩ := iN_to h.2.2.2.2.1
  have E := env_J h
  unfold fX8_then fX9_then
  rw [c_isCell hr.2.2.2.1, bd_some, m_isCell hm ho, bd_some]
  by_cases hc : bI (isC (W * H) a1) = 0
  · exact ⟨-1000000001, μ, by rw [if_pos hc], by rw [if_pos hc], hI⟩
  obtain ⟨c, hcN, rfl⟩ := isC_f (by omega) hc
  have hy := rOK_y ho hcN
  have hW : 0 < W := by have := hy.1; omega
  have hS : S ≤ 30 := by rcases ho with h | h <;> omega
  rw [if_neg hc, if_neg hc, wi_e, bd_some, in_e, bd_some]
  cases hw : wi a2 0 60
  · exact ⟨-1000000002, μ, by rw [bI_f, if_pos rfl], by rw [bI_f, if_pos rfl], hI⟩
  obtain ⟨n, -, hn, rfl⟩ := (wi_n (a := 0) (b := 60) (by omega) (by omega)).mp hw
  rw [bI_t, if_neg one_ne0, if_neg one_ne0]
  obtain ⟨k0, hk0, ek⟩ := s3.2.2.2.1
  obtain ⟨x0, hx0, ex⟩ := s3.1 c (by omega)
  generalize hx : (x0, bt (sSn s) c) = x
  have hx1 : x.1 ≤ 60 := by rw [← hx]; exact hx0
  have cls : lpX7_inchesBehind_17 μ (ic_ld sw) 4 (nI c) (nI n) 1000 (nI x.1) (bI x.2) 0 = some (nI (cel μ k0 c x n).1) := by
    have := for_M (lp := fun fu i (y : Int32 × Int32) => lpX7_inchesBehind_17 μ (ic_ld sw) 4 (nI c) (nI n) fu y.1 y.2 (nI i)) (M := fun i => (nI (cel μ k0 c x i).1, bI (cel μ k0 c x i).2)) (fin := some (nI (cel μ k0 c x n).1)) n (by omega) (fun fu i hi => by
      obtain ⟨q1, q2, q3⟩ := cld_e (μ0 := μ) (k := k0 + i) E rfl rfl hW (by omega)
      obtain ⟨u1, u2, u3⟩ := cur_e (μ0 := μ) E rfl rfl hcN
      dsimp only
      rw [lpX7_inchesBehind_17, if_neg (nI_ge hi (by omega)), s1.2.2.2.1, ek, nI_add, q2, bd_some, c_after (cel_le hx1 i) q1 u1 u2, bd_some, aft_b q1, bd_some, lt_e, nI_1, cel_1]) (fun fu => by
      dsimp only
      rw [lpX7_inchesBehind_17, if_pos (by exact nI_le (Nat.le_refl _) (by omega))])
    exact this
  obtain ⟨m1, k1, k2, k3⟩ := m_alone s2
  have mdl := for_R (lp := fun fu i y => lpX9_then_30 (nI c) (nI n) fu (nI i) y) (Q := fun m' => (∃ s', rwA m' 99 s' ∧ aloneI μ k0 c P x n s') ∧ ∀ b, b ≠ 99 → m' b = μ b) n (by omega) (fun i m' => (∃ s', rwA m' 99 s' ∧ aloneI μ k0 c P x i s') ∧ ∀ b, b ≠ 99 → m' b = μ b) (fun fu i m' hi hI2 => by
    obtain ⟨⟨s', t1, t2⟩, t3⟩ := hI2
    obtain ⟨m'', j1, j2, j3⟩ := m_pass (μ0 := μ) (env_fr (fun b hb => t3 b (by omega)) E) (t3 92 (by omega)) (t3 93 (by omega)) hW (Or.inr rfl) t1 t2.1 (al_v t2.2.1) t2.2.2.2.2 (by omega)
    refine ⟨m'', ?_, ⟨_, j2, alone_1 hS hN hcN hx1 (by omega) t2⟩, fun b hb => by rw [j3 b hb, t3 b hb]⟩
    rw [lpX9_then_30, if_neg (nI_ge hi (by omega)), j1, bd_some, lt_e, nI_1]) (fun fu m' hI2 => ⟨m', by
    rw [lpX9_then_30, if_pos (by exact nI_le (Nat.le_refl _) (by omega))], hI2⟩) m1 ⟨⟨alnS s, k2, s3.1, fun p hp => rfl, by rw [← hx]; exact ex, by rw [← hx]; rfl, ek⟩, k3⟩
  obtain ⟨m2, j1, ⟨s', j2, j4⟩, j3⟩ := mdl
  have j1 : lpX9_then_30 (nI c) (nI n) 1000 0 m1 = some m2 := j1
  refine ⟨nI (cel μ k0 c x n).1, m2, ?_, ?_, J_tr hI (fun b h1 h2 h3 h4 h5 => j3 b h4)⟩
  · unfold fX7_inchesBehind fX1_isSnowy
    rw [c_inch (by omega), bd_some, s1.1 c (by omega), ex, s1.2.2.1, isIn_e _ (by omega), bd_some, rz_b, bd_some]
    rw [← hx] at cls ⊢
    rw [cls]; rfl
  · rw [k1, bd_some, j1, bd_some, ag_n (by omega) (by omega), j2.1 c (by omega), j4.2.2.1]
/-! searching, with states -/
theorem srchT_e {σ : Type} {lp : Nat → Nat → σ → Option (Unit ⊕ Int32)} {f : Nat → Bool} {M : Nat → σ} {N : Nat} (hN : N < 1000) (hs : ∀ fu i, i < N → lp (fu + 1) i (M i) = if f i = true then some (.inr (nI i)) else lp fu (i + 1) (M (i + 1))) (hx : ∀ fu, lp (fu + 1) N (M N) = some (.inl ())) : lp 1000 0 (M 0) = some (srO (srch f 0 N)) := by
  have key : ∀ n i fu, i + n = N → n < fu → lp fu i (M i) = some (srO (srch f i n)) := by
    intro n
    induction n with
    | zero =>
      intro i fu hi hfu
      have : i = N := by omega
      subst this
      cases fu with
      | zero => omega
      | succ fu => rw [hx fu]; rfl
    | succ n ih =>
      intro i fu hi hfu
      cases fu with
      | zero => omega
      | succ fu =>
        rw [hs fu i (by omega)]
        show _ = some (srO (if f i = true then some i else srch f (i + 1) n))
        by_cases h : f i = true
        · rw [if_pos h, if_pos h]; rfl
        · rw [if_neg h, if_neg h]
          exact ih (i + 1) fu (by omega) (by omega)
  exact key N 0 1000 (by omega) hN
def srM {σ : Type} (o : Option Nat) (s : σ) : σ ⊕ (Int32 × σ) := match o with
  | none => .inl s
  | some j => .inr (nI j, s)
theorem srchR_e {σ : Type} {lp : Nat → Nat → σ → Option (σ ⊕ (Int32 × σ))} {f : Nat → Bool} {I : Nat → σ → Prop} {N : Nat} (hN : N < 1000) (hs : ∀ fu i s, i < N → I i s → (f i = true → lp (fu + 1) i s = some (.inr (nI i, s))) ∧ (f i = false → ∃ s', lp (fu + 1) i s = lp fu (i + 1) s' ∧ I (i + 1) s')) (hx : ∀ fu s, I N s → lp (fu + 1) N s = some (.inl s)) : ∀ s, I 0 s → ∃ s' j, lp 1000 0 s = some (srM (srch f 0 N) s') ∧ I j s' := by
  have key : ∀ n i fu s, i + n = N → n < fu → I i s → ∃ s' j, lp fu i s = some (srM (srch f i n) s') ∧ I j s' := by
    intro n
    induction n with
    | zero =>
      intro i fu s hi hfu hI
      have : i = N := by omega
      subst this
      cases fu with
      | zero => omega
      | succ fu => exact ⟨s, _, hx fu s hI, hI⟩
    | succ n ih =>
      intro i fu s hi hfu hI
      cases fu with
      | zero => omega
      | succ fu =>
        obtain ⟨h1, h2⟩ := hs fu i s (by omega) hI
        show ∃ s' j, lp (fu + 1) i s = some (srM (if f i = true then some i else srch f (i + 1) n) s') ∧ I j s'
        cases hf : f i
        · obtain ⟨s', e1, e2⟩ := h2 hf
          rw [e1, if_neg (by simp)]
          exact ih (i + 1) fu s' (by omega) (by omega) e2
        · rw [if_pos rfl]
          exact ⟨s, i, h1 hf, hI⟩
  intro s hI
  exact key N 0 1000 s (by omega) hN hI
def wnF (μ0 : ic_M) (S k0 c : Nat) (x : Nat × Bool) (w x5 : Int32) (i : Nat) : Bool := decide ((if nI S * nI (cel μ0 k0 c x i).1 < w then (0 : Int32) else 1) = x5)
theorem cm_when {sw : Nat} {μ : ic_M} {W H S P c : Nat} {w x5 : Int32} (h : ic_J (ic_ld sw) μ W H S P) (hcN : c < W * H) : ∃ (v : Int32) (μ2 : ic_M), fX7_firstNight μ (ic_ld sw) 4 (nI c) w x5 = some v ∧ fX9_bearing μ (nI c) w x5 = some (v, μ2) ∧ ∀ b, b ≠ 99 → μ2 b = μ b := by
  obtain ⟨ho, hr, hm, hl, -⟩ := h.1
  have hN := rOK_N ho
  have hP := rOK_P ho
  obtain ⟨s, s1, s2, s3⟩ := iN_to h.2.2.2.2.1
  have E := env_J h
  have hy := rOK_y ho hcN
  have hW : 0 < W := by have := hy.1; omega
  have hS : S ≤ 30 := by rcases ho with h | h <;> omega
  obtain ⟨k0, hk0, ek⟩ := s3.2.2.2.1
  obtain ⟨x0, hx0, ex⟩ := s3.1 c (by omega)
  generalize hx : (x0, bt (sSn s) c) = x
  have hx1 : x.1 ≤ 60 := by rw [← hx]; exact hx0
  have cls : lpX7_firstNight_17 μ (ic_ld sw) 4 (nI c) w x5 1000 (nI x.1) (bI x.2) 0 = some (srO (srch (wnF μ S k0 c x w x5) 0 61)) := by
    have := srchT_e (lp := fun fu i (y : Int32 × Int32) => lpX7_firstNight_17 μ (ic_ld sw) 4 (nI c) w x5 fu y.1 y.2 (nI i)) (f := wnF μ S k0 c x w x5) (M := fun i => (nI (cel μ k0 c x i).1, bI (cel μ k0 c x i).2)) (N := 61) (by omega) (fun fu i hi => by
      obtain ⟨q1, q2, q3⟩ := cld_e (μ0 := μ) (k := k0 + i) E rfl rfl hW (by omega)
      obtain ⟨u1, u2, u3⟩ := cur_e (μ0 := μ) E rfl rfl hcN
      dsimp only
      rw [lpX7_firstNight_17, if_neg (show ¬ (60 : Int32) < nI i from nI_nlt (a := 60) (by omega) (by omega)), hr.2.2.1, s1.2.2.2.1, ek, nI_add, q2, bd_some, c_after (cel_le hx1 i) q1 u1 u2, bd_some, aft_b q1, bd_some, lt_e, nI_1, cel_1]
      have e1 : (if nI S * nI (cel μ k0 c x i).1 < w then some (0 : Int32) else some 1) = some (if nI S * nI (cel μ k0 c x i).1 < w then (0 : Int32) else 1) := by split <;> rfl
      rw [e1, bd_some]
      unfold wnF
      by_cases hq : (if nI S * nI (cel μ k0 c x i).1 < w then (0 : Int32) else 1) = x5
      · rw [if_pos hq, if_pos (by simp [hq])]
      · rw [if_neg hq, if_neg (by simp [hq])]) (fun fu => by
      dsimp only
      rw [lpX7_firstNight_17, if_pos (by decide)])
    exact this
  obtain ⟨m1, k1, k2, k3⟩ := m_alone s2
  have mdl := srchR_e (lp := fun fu i y => lpX9_bearing_7 (nI c) w x5 fu (nI i) y) (f := wnF μ S k0 c x w x5) (I := fun i m' => (∃ s', rwA m' 99 s' ∧ aloneI μ k0 c P x i s') ∧ ∀ b, b ≠ 99 → m' b = μ b) (N := 61) (by omega) (fun fu i m' hi hI2 => by
    obtain ⟨⟨s', t1, t2⟩, t3⟩ := hI2
    have e1 : (if nI S * nI (cel μ k0 c x i).1 < w then some (0 : Int32) else some 1) = some (if nI S * nI (cel μ k0 c x i).1 < w then (0 : Int32) else 1) := by split <;> rfl
    have e2 : lpX9_bearing_7 (nI c) w x5 (fu + 1) (nI i) m' = if (if nI S * nI (cel μ k0 c x i).1 < w then (0 : Int32) else 1) = x5 then some (.inr (nI i, m')) else Option.bind (fX9_passes m' 99) (fun m24 => ic_lt (nI i + (1 : Int32)) (fun x25 => lpX9_bearing_7 (nI c) w x5 fu x25 m24)) := by
      rw [lpX9_bearing_7, if_neg (show ¬ (61 : Int32) ≤ nI i from nI_ge (b := 61) hi (by omega)), m_bears il_m.2.1 (mR_fr (t3 92 (by omega)) hm) (by omega), bd_some, t1.1 c (by omega), t2.2.2.1, e1, bd_some]
    constructor
    · intro hf
      rw [e2, if_pos (by simpa [wnF] using hf)]
    · intro hf
      obtain ⟨m'', j1, j2, j3⟩ := m_pass (μ0 := μ) (env_fr (fun b hb => t3 b (by omega)) E) (t3 92 (by omega)) (t3 93 (by omega)) hW (Or.inr rfl) t1 t2.1 (al_v t2.2.1) t2.2.2.2.2 (by omega)
      refine ⟨m'', ?_, ⟨_, j2, alone_1 hS hN hcN hx1 (by omega) t2⟩, fun b hb => by rw [j3 b hb, t3 b hb]⟩
      rw [e2, if_neg (by simpa [wnF] using hf), j1, bd_some, lt_e, nI_1]) (fun fu m' hI2 => by
    rw [lpX9_bearing_7, if_pos (by decide)]) m1 ⟨⟨alnS s, k2, s3.1, fun p hp => rfl, by rw [← hx]; exact ex, by rw [← hx]; rfl, ek⟩, k3⟩
  obtain ⟨m2, j, j1, ⟨s', j2, j4⟩, j3⟩ := mdl
  have j1 : lpX9_bearing_7 (nI c) w x5 1000 0 m1 = some (srM (srch (wnF μ S k0 c x w x5) 0 61) m2) := j1
  refine ⟨srV (srch (wnF μ S k0 c x w x5) 0 61), m2, ?_, ?_, j3⟩
  · unfold fX7_firstNight fX1_isSnowy
    rw [c_inch (by omega), bd_some, s1.1 c (by omega), ex, s1.2.2.1, isIn_e _ (by omega), bd_some, rz_b, bd_some]
    rw [← hx] at cls ⊢
    rw [cls, bd_some, srV_e]
  · unfold fX9_bearing
    rw [k1, bd_some, j1, bd_some]
    cases srch (wnF μ S k0 c x w x5) 0 61 <;> rfl
theorem pu_when {sw : Nat} {μ : ic_M} (hI : ic_I sw μ) (a1 a2 : Int32) : ∃ (v : Int32) (μ2 : ic_M), fX8_when sw μ a1 a2 = some v ∧ fX9_when μ a1 a2 = some (v, μ2) ∧ ic_I sw μ2 := by
  obtain ⟨W, H, S, P, h⟩ := id hI
  obtain ⟨ho, hr, hm, hl, -⟩ := h.1
  have hN := rOK_N ho
  unfold fX8_when fX9_when
  rw [c_isCell hr.2.2.2.1, bd_some, m_isCell hm ho, bd_some]
  by_cases hc : bI (isC (W * H) a1) = 0
  · exact ⟨-1000000001, μ, by rw [if_pos hc], by rw [if_pos hc]; rfl, hI⟩
  obtain ⟨c, hcN, rfl⟩ := isC_f (by omega) hc
  rw [if_neg hc, if_neg hc, wi_e, bd_some, in_e, bd_some]
  cases hw : wi a2 1 999
  · exact ⟨-1000000002, μ, by rw [bI_f, if_pos rfl]; rfl, by rw [bI_f, if_pos rfl]; rfl, hI⟩
  rw [bI_t, if_neg one_ne0, if_neg one_ne0]
  obtain ⟨v, m2, k1, k2, k3⟩ := cm_when (w := a2) (x5 := 1) h hcN
  exact ⟨v, m2, by rw [k1]; rfl, by rw [k2]; rfl, J_tr hI (fun b h1 h2 h3 h4 h5 => k3 b h4)⟩
theorem pu_noMore {sw : Nat} {μ : ic_M} (hI : ic_I sw μ) (a1 a2 : Int32) : ∃ (v : Int32) (μ2 : ic_M), fX8_noMore sw μ a1 a2 = some v ∧ fX9_noMore μ a1 a2 = some (v, μ2) ∧ ic_I sw μ2 := by
  obtain ⟨W, H, S, P, h⟩ := id hI
  obtain ⟨ho, hr, hm, hl, -⟩ := h.1
  have hN := rOK_N ho
  unfold fX8_noMore fX9_noMore
  rw [c_isCell hr.2.2.2.1, bd_some, m_isCell hm ho, bd_some]
  by_cases hc : bI (isC (W * H) a1) = 0
  · exact ⟨-1000000001, μ, by rw [if_pos hc], by rw [if_pos hc]; rfl, hI⟩
  obtain ⟨c, hcN, rfl⟩ := isC_f (by omega) hc
  rw [if_neg hc, if_neg hc, wi_e, bd_some, in_e, bd_some]
  cases hw : wi a2 1 999
  · exact ⟨-1000000002, μ, by rw [bI_f, if_pos rfl]; rfl, by rw [bI_f, if_pos rfl]; rfl, hI⟩
  rw [bI_t, if_neg one_ne0, if_neg one_ne0]
  obtain ⟨v, m2, k1, k2, k3⟩ := cm_when (w := a2) (x5 := 0) h hcN
  exact ⟨v, m2, by rw [k1]; rfl, by rw [k2]; rfl, J_tr hI (fun b h1 h2 h3 h4 h5 => k3 b h4)⟩
