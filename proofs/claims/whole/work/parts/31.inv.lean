/-! ===== THE INVARIANT: what the class and the reference hold, side by side ===== -/
/-- an ice of the class's at a, the 28 numbers of row r from o on -/
def E28 (μ : ic_M) (a r o : Nat) : Prop := (∀ c, c < 18 → μ (a + 1) c = μ r (o + c)) ∧ (∀ p, p < 6 → μ (a + 2) p = μ r (o + 18 + p)) ∧ μ a 2 = μ r (o + 24) ∧ μ a 4 = μ r (o + 25) ∧ μ a 3 = μ r (o + 26) ∧ μ a 5 = μ r (o + 27)
/-- 28 numbers that are an ice of a river with N cells and P persons -/
def gd (v : Nat → Int32) (o N P : Nat) : Prop := (∀ c, c < 18 → ∃ n, n ≤ 60 ∧ v (o + c) = nI n) ∧ (∀ p, p < P → vP N (v (o + 18 + p))) ∧ (∀ p, p < P → ∀ c, c < N → v (o + 18 + p) = nI c → ¬ v (o + c) = 0) ∧ (∃ k, k ≤ 9060 ∧ v (o + 26) = nI k) ∧ (0 < N → ∀ p, P ≤ p → p < 6 → v (o + 18 + p) = -1)
/-- a list of the text's: the class's with its count, the reference's with its count -/
def lsOK (cn : Int32) (cl : Nat → Int32) (mn : Int32) (ml : Nat → Int32) (B V d : Nat) : Prop := ∃ n, 1 ≤ n ∧ n ≤ B ∧ mn = nI n ∧ ((cn = 0 ∧ n = 1 ∧ ml 0 = nI d) ∨ (cn = nI n ∧ ∀ j, j < n → cl j = ml j)) ∧ ∀ j, j < n → ∃ v, v ≤ V ∧ ml j = nI v
def iR (R : Nat) (μ : ic_M) (W H S P : Nat) : Prop := rOK W H S P ∧ cR μ R W H S P ∧ mR μ W H S P ∧ (0 < W → lsOK (μ R 6) (μ (R + 2)) (μ 92 5) (fun j => μ 93 (18 + j)) 6 9 0 ∧ lsOK (μ R 7) (μ (R + 3)) (μ 92 6) (fun j => μ 93 (24 + j)) 12 20 10) ∧ ∀ p, p < P → μ (R + 4) p = μ 94 (2 * p) ∧ μ (R + 5) p = μ 94 (2 * p + 1) ∧ (μ 94 (2 * p) = 0 ∨ μ 94 (2 * p) = 1) ∧ ∃ w, 1 ≤ w ∧ w ≤ 200 ∧ μ 94 (2 * p + 1) = nI w
def iT (μ : ic_M) : Prop := ∃ n, n ≤ 240 ∧ μ 2 2 = nI n ∧ μ 90 1 = nI n ∧ ∀ j, j < n → μ 3 j = μ 91 j ∧ ∃ t, t ≤ 255 ∧ μ 91 j = nI t
def iS (μ : ic_M) : Prop := μ 1 10 = μ 90 16 ∧ ∃ k, k < 2 ^ 31 ∧ μ 90 16 = nI k
def iN (μ : ic_M) (N P : Nat) : Prop := E28 μ 4 98 0 ∧ gd (μ 98) 0 N P
/-- the place of the j-th of n states in the ring -/
def rg (nx n j : Nat) : Nat := 9 + 3 * ((nx + 16 - n + j) % 16)
def iP (μ : ic_M) (N P : Nat) : Prop := ∃ n nx, n ≤ 16 ∧ nx < 16 ∧ μ 7 2 = nI n ∧ μ 7 1 = nI nx ∧ μ 90 12 = nI n ∧ ∀ j, j < n → E28 μ (rg nx n j) 100 (28 * j) ∧ gd (μ 100) (28 * j) N P
def iK (μ : ic_M) (N P : Nat) : Prop := ∃ b0 b1 : Bool, μ 1 9 = bI b0 + 2 * bI b1 ∧ μ 103 0 = bI b0 ∧ μ 103 1 = bI b1 ∧ (b0 = true → E28 μ 71 101 0 ∧ gd (μ 101) 0 N P ∧ μ 70 1 = μ 102 0 ∧ ∃ k, k < 2 ^ 31 ∧ μ 102 0 = nI k) ∧ (b1 = true → E28 μ 75 101 28 ∧ gd (μ 101) 28 N P ∧ μ 74 1 = μ 102 1 ∧ ∃ k, k < 2 ^ 31 ∧ μ 102 1 = nI k)
def iW (μ : ic_M) : Prop := ∃ n, n ≤ 6 ∧ μ 61 4 = nI n ∧ μ 90 18 = nI n ∧ ∀ j, j < n → μ 62 j = μ 104 (2 * j) ∧ μ 63 j = μ 104 (2 * j + 1) ∧ (μ 104 (2 * j + 1) = 0 ∨ μ 104 (2 * j + 1) = 1) ∧ ∃ t, 1 ≤ t ∧ t ≤ 60 ∧ μ 104 (2 * j) = nI t
def iB (μ : ic_M) (N : Nat) : Prop := ∃ n, n ≤ 15 ∧ μ 66 2 = nI n ∧ μ 90 20 = nI n ∧ ∀ j, j < n → μ 67 j = μ 105 (2 * j) ∧ μ 68 j = μ 105 (2 * j + 1) ∧ ∃ c, c < N ∧ μ 105 (2 * j) = nI c
def ic_J (R : Nat) (μ : ic_M) (W H S P : Nat) : Prop := iR R μ W H S P ∧ iT μ ∧ μ 1 11 = μ 90 2 ∧ iS μ ∧ iN μ (W * H) P ∧ iP μ (W * H) P ∧ iK μ (W * H) P ∧ iW μ ∧ iB μ (W * H)
def ic_I (sw : Nat) (μ : ic_M) : Prop := ∃ W H S P, ic_J (ic_ld sw) μ W H S P
theorem ic_ld_or (sw : Nat) : ic_ld sw = 78 ∨ ic_ld sw = 84 := by
  unfold ic_ld
  split
  · exact Or.inl rfl
  · exact Or.inr rfl
/-! what a part of it looks at -/
theorem E28_fr {μ μ' : ic_M} {a r o : Nat} (h0 : μ' a = μ a) (h1 : μ' (a + 1) = μ (a + 1)) (h2 : μ' (a + 2) = μ (a + 2)) (h3 : μ' r = μ r) (h : E28 μ a r o) : E28 μ' a r o := by
  unfold E28 at h ⊢
  rw [h0, h1, h2, h3]; exact h
theorem iR_fr {μ μ' : ic_M} {R W H S P : Nat} (h : ∀ b, (R ≤ b ∧ b ≤ R + 5) ∨ (92 ≤ b ∧ b ≤ 94) → μ' b = μ b) (hR : iR R μ W H S P) : iR R μ' W H S P := by
  unfold iR cR mR at hR ⊢
  rw [h R (by omega), h (R + 2) (by omega), h (R + 3) (by omega), h (R + 4) (by omega), h (R + 5) (by omega), h 92 (by omega), h 93 (by omega), h 94 (by omega)]
  exact hR
theorem iT_fr {μ μ' : ic_M} (h1 : μ' 2 2 = μ 2 2) (h2 : μ' 90 1 = μ 90 1) (h3 : μ' 3 = μ 3) (h4 : μ' 91 = μ 91) (h : iT μ) : iT μ' := by
  unfold iT at h ⊢
  rw [h1, h2, h3, h4]; exact h
theorem iS_fr {μ μ' : ic_M} (h1 : μ' 1 10 = μ 1 10) (h2 : μ' 90 16 = μ 90 16) (h : iS μ) : iS μ' := by
  unfold iS at h ⊢
  rw [h1, h2]; exact h
theorem iN_fr {μ μ' : ic_M} {N P : Nat} (h1 : μ' 4 = μ 4) (h2 : μ' 5 = μ 5) (h3 : μ' 6 = μ 6) (h4 : μ' 98 = μ 98) (h : iN μ N P) : iN μ' N P := by
  unfold iN at h ⊢
  rw [h4]; exact ⟨E28_fr h1 h2 h3 h4 h.1, h.2⟩
theorem iP_fr {μ μ' : ic_M} {N P : Nat} (h1 : μ' 7 2 = μ 7 2) (h2 : μ' 7 1 = μ 7 1) (h3 : μ' 90 12 = μ 90 12) (h4 : ∀ b, 9 ≤ b → b ≤ 56 → μ' b = μ b) (h5 : μ' 100 = μ 100) (h : iP μ N P) : iP μ' N P := by
  obtain ⟨n, nx, a1, a2, a3, a4, a5, a6⟩ := h
  refine ⟨n, nx, a1, a2, h1.trans a3, h2.trans a4, h3.trans a5, fun j hj => ?_⟩
  obtain ⟨e, g⟩ := a6 j hj
  have hm : (nx + 16 - n + j) % 16 < 16 := Nat.mod_lt _ (by omega)
  rw [h5]
  exact ⟨E28_fr (h4 _ (by unfold rg; omega) (by unfold rg; omega)) (h4 _ (by unfold rg; omega) (by unfold rg; omega)) (h4 _ (by unfold rg; omega) (by unfold rg; omega)) h5 e, g⟩
theorem iK_fr {μ μ' : ic_M} {N P : Nat} (h1 : μ' 1 9 = μ 1 9) (h2 : ∀ b, 70 ≤ b → b ≤ 77 → μ' b = μ b) (h3 : μ' 101 = μ 101) (h4 : μ' 102 = μ 102) (h5 : μ' 103 = μ 103) (h : iK μ N P) : iK μ' N P := by
  unfold iK E28 at h ⊢
  rw [h1, h3, h4, h5, h2 70 (by omega) (by omega), h2 71 (by omega) (by omega), h2 72 (by omega) (by omega), h2 73 (by omega) (by omega), h2 74 (by omega) (by omega), h2 75 (by omega) (by omega), h2 76 (by omega) (by omega), h2 77 (by omega) (by omega)]
  exact h
theorem iW_fr {μ μ' : ic_M} (h1 : μ' 61 4 = μ 61 4) (h2 : μ' 90 18 = μ 90 18) (h3 : μ' 62 = μ 62) (h4 : μ' 63 = μ 63) (h5 : μ' 104 = μ 104) (h : iW μ) : iW μ' := by
  unfold iW at h ⊢
  rw [h1, h2, h3, h4, h5]; exact h
theorem iB_fr {μ μ' : ic_M} {N : Nat} (h1 : μ' 66 2 = μ 66 2) (h2 : μ' 90 20 = μ 90 20) (h3 : μ' 67 = μ 67) (h4 : μ' 68 = μ 68) (h5 : μ' 105 = μ 105) (h : iB μ N) : iB μ' N := by
  unfold iB at h ⊢
  rw [h1, h2, h3, h4, h5]; exact h
/-! the start -/
theorem ic_I0 : ic_I 0 ic_m0 := by
  refine ⟨0, 0, 0, 0, ⟨Or.inr ⟨rfl, rfl, rfl, rfl⟩, ?_, ?_, fun h => absurd h (by omega), fun p h => absurd h (by omega)⟩, ⟨0, by omega, ?_, ?_, fun j h => absurd h (by omega)⟩, ?_, ⟨?_, 0, by omega, ?_⟩, ⟨?_, ?_⟩, ⟨0, 0, by omega, by omega, ?_, ?_, ?_, fun j h => absurd h (by omega)⟩, ⟨false, false, ?_, ?_, ?_, fun h => absurd h (by simp), fun h => absurd h (by simp)⟩, ⟨0, by omega, ?_, ?_, fun j h => absurd h (by omega)⟩, ⟨0, by omega, ?_, ?_, fun j h => absurd h (by omega)⟩⟩
  · unfold cR; decide +kernel
  · unfold mR; decide +kernel
  · decide +kernel
  · decide +kernel
  · decide +kernel
  · decide +kernel
  · decide +kernel
  · unfold E28; decide +kernel
  · refine ⟨fun c hc => ⟨0, by omega, ?_⟩, fun p h => absurd h (by omega), fun p h => absurd h (by omega), ⟨0, by omega, ?_⟩, fun h => absurd h (by omega)⟩
    · exact (by decide +kernel : ∀ c, c < 18 → ic_m0 98 (0 + c) = nI 0) c hc
    · decide +kernel
  · decide +kernel
  · decide +kernel
  · decide +kernel
  · decide +kernel
  · decide +kernel
  · decide +kernel
  · decide +kernel
  · decide +kernel
  · decide +kernel
  · decide +kernel
