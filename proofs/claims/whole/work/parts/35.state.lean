/-! ===== a state of the ice, apart from where it lies ===== -/
abbrev iceS : Type := (Nat → Int32) × (Nat → Int32) × Int32 × Int32 × Int32 × Int32
abbrev sI (s : iceS) : Nat → Int32 := s.1
abbrev sP (s : iceS) : Nat → Int32 := s.2.1
abbrev sSn (s : iceS) : Int32 := s.2.2.1
abbrev sNi (s : iceS) : Int32 := s.2.2.2.1
abbrev sOw (s : iceS) : Int32 := s.2.2.2.2.1
abbrev sBr (s : iceS) : Int32 := s.2.2.2.2.2
/-- the class's ice at a holds it -/
def icA (μ : ic_M) (a : Nat) (s : iceS) : Prop := (∀ c, c < 18 → μ (a + 1) c = sI s c) ∧ (∀ p, p < 6 → μ (a + 2) p = sP s p) ∧ μ a 2 = sSn s ∧ μ a 3 = sNi s ∧ μ a 4 = sOw s ∧ μ a 5 = sBr s
/-- the reference's row r from o on holds it -/
def rwO (μ : ic_M) (r o : Nat) (s : iceS) : Prop := (∀ c, c < 18 → μ r (o + c) = sI s c) ∧ (∀ p, p < 6 → μ r (o + 18 + p) = sP s p) ∧ μ r (o + 24) = sSn s ∧ μ r (o + 26) = sNi s ∧ μ r (o + 25) = sOw s ∧ μ r (o + 27) = sBr s
def rwA (μ : ic_M) (r : Nat) (s : iceS) : Prop := (∀ c, c < 18 → μ r c = sI s c) ∧ (∀ p, p < 6 → μ r (18 + p) = sP s p) ∧ μ r 24 = sSn s ∧ μ r 26 = sNi s ∧ μ r 25 = sOw s ∧ μ r 27 = sBr s
theorem rwA_O {μ : ic_M} {r : Nat} {s : iceS} : rwA μ r s ↔ rwO μ r 0 s := by
  unfold rwA rwO
  simp only [Nat.zero_add]
def gS (s : iceS) (N P : Nat) : Prop := gI (sI s) ∧ (∀ p, p < P → vP N (sP s p)) ∧ (∀ p, p < P → ∀ c, c < N → sP s p = nI c → ¬ sI s c = 0) ∧ (∃ k, k ≤ 9060 ∧ sNi s = nI k) ∧ (0 < N → ∀ p, P ≤ p → p < 6 → sP s p = -1)
def stO (μ : ic_M) (r o : Nat) : iceS := (fun c => μ r (o + c), fun p => μ r (o + 18 + p), μ r (o + 24), μ r (o + 26), μ r (o + 25), μ r (o + 27))
theorem stO_rw (μ : ic_M) (r o : Nat) : rwO μ r o (stO μ r o) := ⟨fun _ _ => rfl, fun _ _ => rfl, rfl, rfl, rfl, rfl⟩
theorem E_of {μ : ic_M} {a r o : Nat} {s : iceS} (h1 : icA μ a s) (h2 : rwO μ r o s) : E28 μ a r o := ⟨fun c hc => (h1.1 c hc).trans (h2.1 c hc).symm, fun p hp => (h1.2.1 p hp).trans (h2.2.1 p hp).symm, h1.2.2.1.trans h2.2.2.1.symm, h1.2.2.2.2.1.trans h2.2.2.2.2.1.symm, h1.2.2.2.1.trans h2.2.2.2.1.symm, h1.2.2.2.2.2.trans h2.2.2.2.2.2.symm⟩
theorem E_to {μ : ic_M} {a r o : Nat} (h : E28 μ a r o) : icA μ a (stO μ r o) := ⟨h.1, h.2.1, h.2.2.1, h.2.2.2.2.1, h.2.2.2.1, h.2.2.2.2.2⟩
theorem gd_of {μ : ic_M} {r o N P : Nat} {s : iceS} (hP : P ≤ 6) (hN : N ≤ 18) (h : rwO μ r o s) (g : gS s N P) : gd (μ r) o N P := by
  refine ⟨fun c hc => ?_, fun p hp => ?_, fun p hp c hc e => ?_, ?_, fun h0 p h1 h2 => ?_⟩
  · rw [h.1 c hc]; exact g.1 c hc
  · rw [h.2.1 p (by omega)]; exact g.2.1 p hp
  · rw [h.1 c (by omega)]
    rw [h.2.1 p (by omega)] at e
    exact g.2.2.1 p hp c hc e
  · rw [h.2.2.2.1]; exact g.2.2.2.1
  · rw [h.2.1 p h2]; exact g.2.2.2.2 h0 p h1 h2
theorem gd_to {μ : ic_M} {r o N P : Nat} (h : gd (μ r) o N P) : gS (stO μ r o) N P := ⟨h.1, h.2.1, h.2.2.1, h.2.2.2.1, h.2.2.2.2⟩
theorem iN_of {μ : ic_M} {N P : Nat} {s : iceS} (hP : P ≤ 6) (hN : N ≤ 18) (h1 : icA μ 4 s) (h2 : rwA μ 98 s) (g : gS s N P) : iN μ N P := ⟨E_of h1 (rwA_O.mp h2), gd_of hP hN (rwA_O.mp h2) g⟩
theorem iN_to {μ : ic_M} {N P : Nat} (h : iN μ N P) : ∃ s, icA μ 4 s ∧ rwA μ 98 s ∧ gS s N P := ⟨stO μ 98 0, E_to h.1, rwA_O.mpr (stO_rw μ 98 0), gd_to h.2⟩
theorem icA_fr {μ μ' : ic_M} {a : Nat} {s : iceS} (h0 : μ' a = μ a) (h1 : μ' (a + 1) = μ (a + 1)) (h2 : μ' (a + 2) = μ (a + 2)) (h : icA μ a s) : icA μ' a s := by
  unfold icA at h ⊢
  rw [h0, h1, h2]; exact h
theorem rwA_fr {μ μ' : ic_M} {r : Nat} {s : iceS} (h0 : μ' r = μ r) (h : rwA μ r s) : rwA μ' r s := by
  unfold rwA at h ⊢
  rw [h0]; exact h
/-- the law of the river, in this memory -/
def env (R : Nat) (μ : ic_M) (q : Nat → Int32) (W H S P : Nat) : Prop := iR R μ W H S P ∧ μ 94 = q ∧ 78 ≤ R ∧ R ≤ 84
theorem env_fr {R : Nat} {μ μ' : ic_M} {q : Nat → Int32} {W H S P : Nat} (h : ∀ b, (78 ≤ b ∧ b ≤ 89) ∨ (92 ≤ b ∧ b ≤ 94) → μ' b = μ b) (e : env R μ q W H S P) : env R μ' q W H S P := by
  obtain ⟨e1, e2, e3, e4⟩ := e
  exact ⟨iR_fr (fun b hb => h b (by omega)) e1, (h 94 (by omega)).trans e2, e3, e4⟩
theorem env_J {sw : Nat} {μ : ic_M} {W H S P : Nat} (h : ic_J (ic_ld sw) μ W H S P) : env (ic_ld sw) μ (μ 94) W H S P := ⟨h.1, rfl, (ld_hi sw).1, (ld_hi sw).2⟩
theorem env_w {R : Nat} {μ : ic_M} {q : Nat → Int32} {W H S P : Nat} (e : env R μ q W H S P) : (∀ p, p < P → μ (R + 5) p = q (2 * p + 1)) ∧ (∀ p, μ 94 p = q p) ∧ gW P (fun p => q (2 * p + 1)) ∧ gW P (μ (R + 5)) ∧ (∀ p, p < P → μ (R + 4) p = q (2 * p) ∧ (q (2 * p) = 0 ∨ q (2 * p) = 1)) := by
  obtain ⟨⟨ho, hr, hm, hl, hp⟩, e2, -⟩ := e
  rw [e2] at hp
  refine ⟨fun p h => (hp p h).2.1, fun p => by rw [e2], fun p h => ?_, fun p h => ?_, fun p h => ⟨(hp p h).1, (hp p h).2.2.1⟩⟩
  · obtain ⟨-, -, -, w, -, hw, e3⟩ := hp p h
    exact ⟨w, hw, e3⟩
  · obtain ⟨-, e1, -, w, -, hw, e3⟩ := hp p h
    exact ⟨w, hw, e1.trans e3⟩
section BRK
variable {R : Nat} {μ : ic_M} {q : Nat → Int32} {W H S P a r : Nat} {s : iceS}
def ovS (q : Nat → Int32) (W H S P : Nat) (s : iceS) : Nat → Bool := ovl W (W * H) P S (fun p => q (2 * p + 1)) (sP s) (sI s)
def brkS (q : Nat → Int32) (W H S P : Nat) (s : iceS) : iceS := (fun c => if c < W * H ∧ ovS q W H S P s c = true then 0 else sI s c, fun p => if p < P ∧ inS (bs (ovS q W H S P s) (W * H)) (sP s p) = true then -2 else sP s p, sSn s, sNi s, sOw s, sBr s + nI (cnt (ovS q W H S P s) (W * H)))
def nbS (q : Nat → Int32) (W H S P : Nat) (s : iceS) : Nat := cnt (ovS q W H S P s) (W * H)
def clmS (t : Int32) (n : Nat) (s : iceS) : iceS := (sI s, sP s, sSn s, sNi s, if 0 < n ∧ sOw s = -1 then t else sOw s, sBr s)
theorem ov_c (e : env R μ q W H S P) (hA : icA μ a s) {c : Nat} (hc : c < 18) : ovl W (W * H) P S (μ (R + 5)) (μ (a + 2)) (μ (a + 1)) c = ovS q W H S P s c := by
  have hP := rOK_P e.1.1
  unfold ovS ovl
  rw [hA.1 c hc, ldS_congr (fun p hp => (env_w e).1 p hp) (fun p hp => hA.2.1 p (by omega))]
theorem ov_m (e : env R μ q W H S P) (hA : rwA μ r s) {c : Nat} (hc : c < 18) : ovl W (W * H) P S (fun p => μ 94 (2 * p + 1)) (fun p => μ r (18 + p)) (μ r) c = ovS q W H S P s c := by
  have hP := rOK_P e.1.1
  unfold ovS ovl
  rw [hA.1 c hc, e.2.1, ldS_congr (fun p hp => rfl) (fun p hp => hA.2.1 p (by omega))]
theorem c_brk (e : env R μ q W H S P) (hA : icA μ a s) (har : a + 2 < R) (hv : ∀ p, p < P → vP (W * H) (sP s p)) : ∃ μ', fX1_breakOn μ a R = some (nI (nbS q W H S P s), μ') ∧ icA μ' a (brkS q W H S P s) ∧ ∀ b, b ≠ a → b ≠ a + 1 → b ≠ a + 2 → μ' b = μ b := by
  obtain ⟨ho, hr, hm, hl, hpp⟩ := e.1
  have hN := rOK_N ho
  have hP := rOK_P ho
  have hb := c_break (a := a) har hr ho (env_w e).2.2.2.1 (fun p hp => by rw [hA.2.1 p (by omega)]; exact hv p hp)
  have ec : cnt (ovl W (W * H) P S (μ (R + 5)) (μ (a + 2)) (μ (a + 1))) (W * H) = nbS q W H S P s := cnt_congr (fun c hc => ov_c e hA (by omega))
  have eb : bs (ovl W (W * H) P S (μ (R + 5)) (μ (a + 2)) (μ (a + 1))) (W * H) = bs (ovS q W H S P s) (W * H) := bs_congr (fun c hc => ov_c e hA (by omega))
  rw [ec] at hb
  refine ⟨_, hb, ⟨fun c hc => ?_, fun p hp => ?_, ?_, ?_, ?_, ?_⟩, fun b h1 h2 h3 => ?_⟩
  · rw [ic_up_ne (by omega)]
    show _ = if c < W * H ∧ ovS q W H S P s c = true then 0 else sI s c
    by_cases h : c < W * H
    · rw [cB_in h, ov_c e hA hc, hA.1 c hc]
      simp [h]
    · unfold cB
      rw [pm_ne (by omega), pm_ge (by omega), hA.1 c hc]
      simp [h]
  · rw [ic_up_ne (by omega)]
    show _ = if p < P ∧ inS (bs (ovS q W H S P s) (W * H)) (sP s p) = true then -2 else sP s p
    by_cases h : p < P
    · rw [cB_pl h, eb, hA.2.1 p hp]
      simp [h]
    · unfold cB
      rw [pm_ge (by omega), pm_ne (by omega), hA.2.1 p hp]
      simp [h]
  · have : ∀ v, ic_up (cB μ a (W * H) P (ovl W (W * H) P S (μ (R + 5)) (μ (a + 2)) (μ (a + 1)))) a 5 v a 2 = μ a 2 := fun v => by
      rw [ic_up_eq, pk_un (by omega), cB_ne (by omega) (by omega)]
    rw [this]; exact hA.2.2.1
  · have : ∀ v, ic_up (cB μ a (W * H) P (ovl W (W * H) P S (μ (R + 5)) (μ (a + 2)) (μ (a + 1)))) a 5 v a 3 = μ a 3 := fun v => by
      rw [ic_up_eq, pk_un (by omega), cB_ne (by omega) (by omega)]
    rw [this]; exact hA.2.2.2.1
  · have : ∀ v, ic_up (cB μ a (W * H) P (ovl W (W * H) P S (μ (R + 5)) (μ (a + 2)) (μ (a + 1)))) a 5 v a 4 = μ a 4 := fun v => by
      rw [ic_up_eq, pk_un (by omega), cB_ne (by omega) (by omega)]
    rw [this]; exact hA.2.2.2.2.1
  · rw [ic_up_eq, pk_us, hA.2.2.2.2.2]; rfl
  · rw [ic_up_ne h1]
    funext k
    exact cB_ne h2 h3 k
theorem c_claim {t : Int32} {n : Nat} (hn : n < 2 ^ 31) (hA : icA μ a s) : ∃ μ', fX1_claim μ a t (nI n) = some μ' ∧ icA μ' a (clmS t n s) ∧ ∀ b, b ≠ a → μ' b = μ b := by
  unfold fX1_claim
  by_cases h0 : n = 0
  · refine ⟨μ, ?_, ?_, fun _ _ => rfl⟩
    · rw [h0, if_pos (by decide)]; rfl
    · have : clmS t n s = s := by unfold clmS; simp [h0]
      rw [this]; exact hA
  · rw [if_neg (nI_nle (by omega) hn), hA.2.2.2.2.1]
    by_cases h1 : sOw s = -1
    · refine ⟨ic_up μ a 4 t, ?_, ⟨fun c hc => ?_, fun p hp => ?_, ?_, ?_, ?_, ?_⟩, fun b hb => ic_up_ne hb⟩
      · rw [if_pos h1, pu_e]; rfl
      · rw [ic_up_ne (by omega)]; exact hA.1 c hc
      · rw [ic_up_ne (by omega)]; exact hA.2.1 p hp
      · rw [ic_up_eq, pk_un (by omega)]; exact hA.2.2.1
      · rw [ic_up_eq, pk_un (by omega)]; exact hA.2.2.2.1
      · rw [ic_up_eq, pk_us]
        show t = if 0 < n ∧ sOw s = -1 then t else sOw s
        rw [if_pos ⟨by omega, h1⟩]
      · rw [ic_up_eq, pk_un (by omega)]; exact hA.2.2.2.2.2
    · refine ⟨μ, ?_, ?_, fun _ _ => rfl⟩
      · rw [if_neg h1]; rfl
      · have : clmS t n s = s := by unfold clmS; simp [h1]
        rw [this]; exact hA
/-- n broke, the town t takes it -/
def ownS (t : Int32) (n : Nat) (s : iceS) : iceS := (sI s, sP s, sSn s, sNi s, if 0 < n ∧ sOw s = -1 then t else sOw s, sBr s + nI n)
theorem m_owns {t : Int32} {n : Nat} (hn : n < 2 ^ 31) (hr : ic_il 106 r = 28) (hA : rwA μ r s) : ∃ μ', fX9_owns μ r t (nI n) = some μ' ∧ rwA μ' r (ownS t n s) ∧ ∀ b, b ≠ r → μ' b = μ b := by
  refine ⟨ic_up (ic_up μ r 27 (μ r 27 + nI n)) r 25 (if 0 < n ∧ sOw s = -1 then t else sOw s), ?_, ⟨fun c hc => ?_, fun p hp => ?_, ?_, ?_, ?_, ?_⟩, fun b hb => ?_⟩
  · unfold fX9_owns
    rw [hr, show ic_ag μ r 28 (27 : Int32) = ic_ag μ r 28 (nI 27) from rfl, ag_n (by omega) (by omega), show ic_as μ r 28 (27 : Int32) = ic_as μ r 28 (nI 27) from rfl, as_n (by omega) (by omega)]
    have e1 : ∀ {α : Type} (T : Int32 → Option α), ic_ag (ic_up μ r 27 (μ r 27 + nI n)) r 28 (25 : Int32) T = T (sOw s) := fun T => by
      rw [show ∀ m, ic_ag m r 28 (25 : Int32) T = ic_ag m r 28 (nI 25) T from fun _ => rfl, ag_n (by omega) (by omega), ic_up_eq, pk_un (by omega), hA.2.2.2.2.1]
    simp only [e1]
    have e2 : (if nI n ≤ 0 then some (sOw s) else if sOw s = -1 then some t else some (sOw s)) = some (if 0 < n ∧ sOw s = -1 then t else sOw s) := by
      by_cases h0 : n = 0
      · rw [h0, if_pos (by decide), if_neg (by omega)]
      · rw [if_neg (nI_nle (by omega) hn)]
        by_cases h1 : sOw s = -1
        · rw [if_pos h1, if_pos ⟨by omega, h1⟩]
        · rw [if_neg h1, if_neg (fun h => h1 h.2)]
    rw [e2, bd_some, show ∀ m, ic_as m r 28 (25 : Int32) = ic_as m r 28 (nI 25) from fun _ => rfl, as_n (by omega) (by omega)]
  · rw [ic_up_eq, pk_un (by omega), ic_up_eq, pk_un (by omega)]; exact hA.1 c hc
  · rw [ic_up_eq, pk_un (by omega), ic_up_eq, pk_un (by omega)]; exact hA.2.1 p hp
  · rw [ic_up_eq, pk_un (by omega), ic_up_eq, pk_un (by omega)]; exact hA.2.2.1
  · rw [ic_up_eq, pk_un (by omega), ic_up_eq, pk_un (by omega)]; exact hA.2.2.2.1
  · rw [ic_up_eq, pk_us]; rfl
  · rw [ic_up_eq, pk_un (by omega), ic_up_eq, pk_us, hA.2.2.2.2.2]; rfl
  · rw [ic_up_ne hb, ic_up_ne hb]
theorem m_brk {t : Int32} (e : env R μ q W H S P) (h9 : r = 98 ∨ r = 99) (hA : rwA μ r s) (hg : gI (sI s)) (hv : ∀ p, p < P → vP (W * H) (sP s p)) : ∃ μ', fX9_breaks μ r t = some (nI (nbS q W H S P s), μ') ∧ rwA μ' r (clmS t (nbS q W H S P s) (brkS q W H S P s)) ∧ ∀ b, b ≠ r → μ' b = μ b := by
  obtain ⟨ho, hr, hm, hl, hpp⟩ := e.1
  have hN := rOK_N ho
  have hP := rOK_P ho
  have hil : ic_il 106 r = 28 := by rcases h9 with rfl | rfl <;> decide +kernel
  have hg' : gI (μ r) := fun c hc => by rw [hA.1 c hc]; exact hg c hc
  have hw : gW P (fun p => μ 94 (2 * p + 1)) := by rw [e.2.1]; exact (env_w e).2.2.1
  have hb := m_break (x2 := t) hil (by omega) (by omega) hm ho hg' hw (fun p hp => by rw [hA.2.1 p (by omega)]; exact hv p hp) rfl
  have ec : cnt (ovl W (W * H) P S (fun p => μ 94 (2 * p + 1)) (fun p => μ r (18 + p)) (μ r)) (W * H) = nbS q W H S P s := cnt_congr (fun c hc => ov_m e hA (by omega))
  have eb : bs (ovl W (W * H) P S (fun p => μ 94 (2 * p + 1)) (fun p => μ r (18 + p)) (μ r)) (W * H) = bs (ovS q W H S P s) (W * H) := bs_congr (fun c hc => ov_m e hA (by omega))
  rw [ec] at hb
  have hle : nbS q W H S P s ≤ W * H := cnt_le _ _
  have hA2 : rwA (mB μ r (W * H) P (ovl W (W * H) P S (fun p => μ 94 (2 * p + 1)) (fun p => μ r (18 + p)) (μ r))) r ((brkS q W H S P s).1, (brkS q W H S P s).2.1, sSn s, sNi s, sOw s, sBr s) := by
    refine ⟨fun c hc => ?_, fun p hp => ?_, ?_, ?_, ?_, ?_⟩
    · show _ = if c < W * H ∧ ovS q W H S P s c = true then 0 else sI s c
      by_cases h : c < W * H
      · rw [mB_in hN h, ov_m e hA hc, hA.1 c hc]
        simp [h]
      · rw [mB_ge (Or.inl ⟨by omega, hc⟩) hN, hA.1 c hc]
        simp [h]
    · show _ = if p < P ∧ inS (bs (ovS q W H S P s) (W * H)) (sP s p) = true then -2 else sP s p
      by_cases h : p < P
      · rw [mB_pl hN h, eb, hA.2.1 p hp]
        simp [h]
      · rw [mB_ge (Or.inr (by omega)) hN, hA.2.1 p hp]
        simp [h]
    · rw [mB_ge (Or.inr (by omega)) hN]; exact hA.2.2.1
    · rw [mB_ge (Or.inr (by omega)) hN]; exact hA.2.2.2.1
    · rw [mB_ge (Or.inr (by omega)) hN]; exact hA.2.2.2.2.1
    · rw [mB_ge (Or.inr (by omega)) hN]; exact hA.2.2.2.2.2
  obtain ⟨μ', h1, h2, h3⟩ := m_owns (t := t) (n := nbS q W H S P s) (by omega) hil hA2
  refine ⟨μ', ?_, h2, fun b hb => ?_⟩
  · have e9 : fX9_breaks μ r t = Option.bind (Option.bind (fX9_breaking μ r) (fun v21 => lpX9_breaks_9 r t 1000 (0 : Int32) v21 μ)) (fun q37 => Option.bind (fX9_owns q37.2 r t q37.1) (fun m38 => some (q37.1, m38))) := by
      unfold fX9_breaks
      cases fX9_breaking μ r <;> rfl
    rw [e9, hb, bd_some, h1]; rfl
  · rw [h3 b hb]
    funext k
    exact mB_ne hb k
end BRK
/-! ===== copies ===== -/
theorem c_copy {μ : ic_M} {a b : Nat} {s : iceS} (hab : a + 2 < b ∨ b + 2 < a) (hA : icA μ b s) : ∃ μ', fX1_copyFrom μ a b = some μ' ∧ icA μ' a s ∧ ∀ x, x ≠ a → x ≠ a + 1 → x ≠ a + 2 → μ' x = μ x := by
  have k1 := for_M (lp := fun fu i m => lpX1_copyFrom_2 a b fu (nI i) m) (M := pm μ (a + 1) 0 (fun _ => true) (μ (b + 1))) (fin := some (pm μ (a + 1) 0 (fun _ => true) (μ (b + 1)) 18)) 18 (by omega) (fun fu i hi => by
      rw [lpX1_copyFrom_2, if_neg (show ¬ (18 : Int32) ≤ nI i from nI_ge (b := 18) hi (by omega)), c_inch (by omega), pm_ne (by omega), bd_some, as_n (by omega) (by omega), lt_e, nI_1, ← pm_t (i := i) rfl, Nat.zero_add]) (fun fu => by
      rw [lpX1_copyFrom_2, if_pos (by decide)])
  rw [pm_0] at k1
  have k1 : lpX1_copyFrom_2 a b 1000 0 μ = _ := k1
  generalize hm1 : pm μ (a + 1) 0 (fun _ => true) (μ (b + 1)) 18 = m1 at k1
  have k2 := for_M (lp := fun fu i m => lpX1_copyFrom_30 a b fu (nI i) m) (M := pm m1 (a + 2) 0 (fun _ => true) (m1 (b + 2))) (fin := some (pm m1 (a + 2) 0 (fun _ => true) (m1 (b + 2)) 6)) 6 (by omega) (fun fu i hi => by
      rw [lpX1_copyFrom_30, if_neg (show ¬ (6 : Int32) ≤ nI i from nI_ge (b := 6) hi (by omega)), c_place (by omega), pm_ne (by omega), bd_some, as_n (by omega) (by omega), lt_e, nI_1, ← pm_t (i := i) rfl, Nat.zero_add]) (fun fu => by
      rw [lpX1_copyFrom_30, if_pos (by decide)])
  rw [pm_0] at k2
  have k2 : lpX1_copyFrom_30 a b 1000 0 m1 = _ := k2
  generalize hm2 : pm m1 (a + 2) 0 (fun _ => true) (m1 (b + 2)) 6 = m2 at k2
  have f1 : ∀ x, x ≠ a + 1 → m1 x = μ x := fun x hx => by
    rw [← hm1]; funext k; exact pm_ne hx k
  have f2 : ∀ x, x ≠ a + 2 → m2 x = m1 x := fun x hx => by
    rw [← hm2]; funext k; exact pm_ne hx k
  refine ⟨ic_up (ic_up (ic_up (ic_up m2 a 2 (μ b 2)) a 3 (μ b 3)) a 4 (μ b 4)) a 5 (μ b 5), ?_, ⟨fun c hc => ?_, fun p hp => ?_, ?_, ?_, ?_, ?_⟩, fun x h1 h2 h3 => ?_⟩
  · unfold fX1_copyFrom
    rw [k1, bd_some, k2, bd_some]
    have hba : b ≠ a := by omega
    simp only [pu_e, ic_up_ne hba, f2 b (by omega), f1 b (by omega)]
  · rw [ic_up_ne (by omega), ic_up_ne (by omega), ic_up_ne (by omega), ic_up_ne (by omega), f2 _ (by omega), ← hm1, pm_in0 hc, if_pos rfl]
    exact hA.1 c hc
  · rw [ic_up_ne (by omega), ic_up_ne (by omega), ic_up_ne (by omega), ic_up_ne (by omega), ← hm2, pm_in0 hp, if_pos rfl, f1 _ (by omega)]
    exact hA.2.1 p hp
  · rw [ic_up_eq, pk_un (by omega), ic_up_eq, pk_un (by omega), ic_up_eq, pk_un (by omega), ic_up_eq, pk_us]; exact hA.2.2.1
  · rw [ic_up_eq, pk_un (by omega), ic_up_eq, pk_un (by omega), ic_up_eq, pk_us]; exact hA.2.2.2.1
  · rw [ic_up_eq, pk_un (by omega), ic_up_eq, pk_us]; exact hA.2.2.2.2.1
  · rw [ic_up_eq, pk_us]; exact hA.2.2.2.2.2
  · rw [ic_up_ne h1, ic_up_ne h1, ic_up_ne h1, ic_up_ne h1, f2 x h3, f1 x h2]
theorem m_copies {μ : ic_M} {r0 r2 x y n : Nat} (hne : r0 ≠ r2) (h0 : x + n ≤ ic_il 106 r0) (h2 : y + n ≤ ic_il 106 r2) (hb : ic_il 106 r0 ≤ 1000) (hb2 : ic_il 106 r2 ≤ 1000) (hn : n < 1000) : ∃ μ', fX9_copies μ r0 (nI x) r2 (nI y) (nI n) = some μ' ∧ (∀ k, k < n → μ' r2 (y + k) = μ r0 (x + k)) ∧ (∀ k, k < y ∨ y + n ≤ k → μ' r2 k = μ r2 k) ∧ ∀ b, b ≠ r2 → μ' b = μ b := by
  have k1 := for_M (lp := fun fu i m => lpX9_copies_3 r0 (nI x) r2 (nI y) (nI n) fu (nI i) m) (M := pm μ r2 y (fun _ => true) (fun k => μ r0 (x + k))) (fin := some (pm μ r2 y (fun _ => true) (fun k => μ r0 (x + k)) n)) n hn (fun fu i hi => by
      rw [lpX9_copies_3, if_neg (nI_ge hi (by omega)), nI_add, nI_add, ag_n (by omega) (by omega), pm_ne hne, as_n (by omega) (by omega), lt_e, nI_1, ← pm_t (i := i) rfl]) (fun fu => by
      rw [lpX9_copies_3, if_pos (by exact nI_le (Nat.le_refl _) (by omega))])
  rw [pm_0] at k1
  have k1 : lpX9_copies_3 r0 (nI x) r2 (nI y) (nI n) 1000 0 μ = _ := k1
  refine ⟨_, by unfold fX9_copies; rw [k1]; rfl, fun k hk => ?_, fun k hk => pm_ge hk, fun b hb => ?_⟩
  · rw [pm_in hk, if_pos rfl]
  · funext k
    exact pm_ne hb k
theorem rwO_cp {μ μ' : ic_M} {r0 r2 x y : Nat} {s : iceS} (h : ∀ k, k < 28 → μ' r2 (y + k) = μ r0 (x + k)) (hA : rwO μ r0 x s) : rwO μ' r2 y s := by
  refine ⟨fun c hc => ?_, fun p hp => ?_, ?_, ?_, ?_, ?_⟩
  · rw [h c (by omega)]; exact hA.1 c hc
  · rw [Nat.add_assoc, h (18 + p) (by omega), ← Nat.add_assoc]; exact hA.2.1 p hp
  · rw [h 24 (by omega)]; exact hA.2.2.1
  · rw [h 26 (by omega)]; exact hA.2.2.2.1
  · rw [h 25 (by omega)]; exact hA.2.2.2.2.1
  · rw [h 27 (by omega)]; exact hA.2.2.2.2.2
