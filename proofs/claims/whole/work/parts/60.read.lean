/-! ===== reading a text: where it is, what is wrong; both sides beside one pure reader ===== -/
/-- the letter at a place, -1 behind the end -/
def sg (t : Nat → Nat) (n a : Nat) : Int32 := if a < n then nI (t a) else -1
/-- the class's text -/
def cT (m : ic_M) (t : Nat → Nat) (n : Nat) : Prop := n ≤ 240 ∧ m 2 2 = nI n ∧ ∀ j, j < n → m 3 j = nI (t j) ∧ t j ≤ 255
def mT (m : ic_M) (t : Nat → Nat) (n : Nat) : Prop := n ≤ 240 ∧ m 90 1 = nI n ∧ ∀ j, j < n → m 91 j = nI (t j) ∧ t j ≤ 255
/-- where a reader is: (0, place), or (what is wrong, where) -/
def cst (m : ic_M) (n : Nat) (s : Nat × Nat) : Prop := s.1 ≤ 3 ∧ s.2 ≤ n ∧ m 2 3 = nI s.1 ∧ (s.1 = 0 → m 2 1 = nI s.2) ∧ (¬ s.1 = 0 → m 2 4 = nI s.2) ∧ ∃ j, j ≤ n ∧ m 2 1 = nI j
def mst (m : ic_M) (n : Nat) (s : Nat × Nat) : Prop := s.1 ≤ 3 ∧ s.2 ≤ n ∧ m 90 22 = nI s.1 ∧ m 90 21 = nI s.2
/-- what a reader's call leaves as it was -/
def cF (m m' : ic_M) : Prop := (∀ b, b ≠ 2 → m' b = m b) ∧ m' 2 2 = m 2 2
def mF (m m' : ic_M) : Prop := (∀ b, b ≠ 90 → m' b = m b) ∧ ∀ k, k ≠ 21 → k ≠ 22 → m' 90 k = m 90 k
theorem cF_rfl (m : ic_M) : cF m m := ⟨fun _ _ => rfl, rfl⟩
theorem mF_rfl (m : ic_M) : mF m m := ⟨fun _ _ => rfl, fun _ _ _ => rfl⟩
theorem cF_tr {a b c : ic_M} (h : cF a b) (g : cF b c) : cF a c := ⟨fun x hx => by rw [g.1 x hx, h.1 x hx], by rw [g.2, h.2]⟩
theorem mF_tr {a b c : ic_M} (h : mF a b) (g : mF b c) : mF a c := ⟨fun x hx => by rw [g.1 x hx, h.1 x hx], fun k h1 h2 => by rw [g.2 k h1 h2, h.2 k h1 h2]⟩
theorem cT_fr {m m' : ic_M} {t : Nat → Nat} {n : Nat} (h2 : m' 2 2 = m 2 2) (h3 : m' 3 = m 3) (h : cT m t n) : cT m' t n := by
  unfold cT at h ⊢
  rw [h2, h3]; exact h
theorem cT_F {m m' : ic_M} {t : Nat → Nat} {n : Nat} (f : cF m m') (h : cT m t n) : cT m' t n := cT_fr f.2 (f.1 3 (by omega)) h
theorem mT_fr {m m' : ic_M} {t : Nat → Nat} {n : Nat} (h2 : m' 90 1 = m 90 1) (h3 : m' 91 = m 91) (h : mT m t n) : mT m' t n := by
  unfold mT at h ⊢
  rw [h2, h3]; exact h
theorem mT_F {m m' : ic_M} {t : Nat → Nat} {n : Nat} (f : mF m m') (h : mT m t n) : mT m' t n := mT_fr (f.2 1 (by omega) (by omega)) (f.1 91 (by omega)) h
section RD
variable {m : ic_M} {t : Nat → Nat} {n : Nat}
theorem sg_m1 {a : Nat} (ht : ∀ j, j < n → t j ≤ 255) : sg t n a = -1 ↔ n ≤ a := by
  unfold sg
  by_cases h : a < n
  · rw [if_pos h]
    have := ht a h
    constructor
    · intro e
      have := congrArg Int32.toInt e
      rw [nI_toInt (by omega)] at this
      have h2 : (-1 : Int32).toInt = -1 := by decide
      omega
    · intro h2; omega
  · rw [if_neg h]
    exact ⟨fun _ => by omega, fun _ => rfl⟩
theorem c_sign (hT : cT m t n) {a : Nat} (h : m 2 1 = nI a) (ha : a ≤ n) : fX4_sign m = some (sg t n a) := by
  obtain ⟨h0, h1, h2⟩ := hT
  unfold fX4_sign sg
  rw [h, h1, if_neg (nI_pos (by omega))]
  by_cases hn : a < n
  · rw [if_neg (nI_ge hn (by omega)), if_neg (show ¬ (240 : Int32) ≤ nI a from nI_ge (b := 240) (by omega) (by omega)), ag_n (by omega) (by omega), bd_some, (h2 a hn).1, if_pos hn]
  · rw [if_pos (nI_le (by omega) (by omega)), bd_some, if_neg hn]
theorem m_look (hT : mT m t n) {a : Nat} (h : m 90 21 = nI a) (ha : a ≤ n) : fX9_look m = some (sg t n a) := by
  obtain ⟨h0, h1, h2⟩ := hT
  unfold fX9_look sg
  rw [h, h1]
  by_cases hn : a < n
  · rw [if_neg (nI_ge hn (by omega)), ag_n (by omega) (by omega), bd_some, (h2 a hn).1, if_pos hn]
  · rw [if_pos (nI_le (by omega) (by omega)), bd_some, if_neg hn]
/-- behind the blanks -/
def skN (t : Nat → Nat) (n : Nat) : Nat → Nat → Nat
  | 0, a => a
  | k + 1, a => if a < n ∧ t a = 32 then skN t n k (a + 1) else a
def sk (t : Nat → Nat) (n a : Nat) : Nat := skN t n (n - a) a
theorem skN_le : ∀ {k a : Nat}, a ≤ n → a ≤ skN t n k a ∧ skN t n k a ≤ n
  | 0, a, h => ⟨Nat.le_refl _, h⟩
  | k + 1, a, h => by
    show a ≤ (if a < n ∧ t a = 32 then skN t n k (a + 1) else a) ∧ (if a < n ∧ t a = 32 then skN t n k (a + 1) else a) ≤ n
    by_cases h1 : a < n ∧ t a = 32
    · rw [if_pos h1]
      have := skN_le (k := k) (a := a + 1) (by omega)
      omega
    · rw [if_neg h1]
      omega
theorem sk_le {a : Nat} (h : a ≤ n) : a ≤ sk t n a ∧ sk t n a ≤ n := skN_le h
theorem sk_t {a : Nat} (h : a < n) (h2 : t a = 32) : sk t n a = sk t n (a + 1) := by
  unfold sk
  rw [show n - a = (n - (a + 1)) + 1 by omega]
  show (if a < n ∧ t a = 32 then skN t n (n - (a + 1)) (a + 1) else a) = _
  rw [if_pos ⟨h, h2⟩]
theorem sk_f {a : Nat} (h : ¬ (a < n ∧ t a = 32)) : sk t n a = a := by
  unfold sk
  cases hk : n - a with
  | zero => rfl
  | succ k =>
    show (if a < n ∧ t a = 32 then skN t n k (a + 1) else a) = a
    rw [if_neg h]
theorem sg_32 {a : Nat} (ht : ∀ j, j < n → t j ≤ 255) : sg t n a = 32 ↔ a < n ∧ t a = 32 := by
  unfold sg
  by_cases h : a < n
  · rw [if_pos h]
    have := ht a h
    rw [show (32 : Int32) = nI 32 from rfl, nI_eq (by omega) (by omega)]
    exact ⟨fun e => ⟨h, e⟩, fun e => e.2⟩
  · rw [if_neg h]
    exact ⟨fun e => absurd e (by decide), fun e => absurd e.1 h⟩
theorem sk_nb {a : Nat} (h : a ≤ n) : ∀ k, n - a = k → ¬ (sk t n a < n ∧ t (sk t n a) = 32) := by
  intro k
  induction k generalizing a with
  | zero =>
    intro hk
    rw [sk_f (by omega)]; omega
  | succ k ih =>
    intro hk
    by_cases h1 : a < n ∧ t a = 32
    · rw [sk_t h1.1 h1.2]
      exact ih (by omega) (by omega)
    · rw [sk_f h1]; exact h1
theorem sk_sk {a : Nat} (h : a ≤ n) : sk t n (sk t n a) = sk t n a := sk_f (sk_nb h _ rfl)
def skS (t : Nat → Nat) (n : Nat) (s : Nat × Nat) : Nat × Nat := if s.1 = 0 then (0, sk t n s.2) else s
theorem ct_ht {m : ic_M} (hT : cT m t n) : ∀ j, j < n → t j ≤ 255 := fun j hj => (hT.2.2 j hj).2
theorem mt_ht {m : ic_M} (hT : mT m t n) : ∀ j, j < n → t j ≤ 255 := fun j hj => (hT.2.2 j hj).2
theorem up_F (m : ic_M) (v : Int32) : cF m (ic_up m 2 1 v) := ⟨fun b hb => ic_up_ne hb, by rw [ic_up_eq, pk_un (by omega)]⟩
theorem up_M (m : ic_M) (v : Int32) : mF m (ic_up m 90 21 v) := ⟨fun b hb => ic_up_ne hb, fun k h1 h2 => by rw [ic_up_eq, pk_un h1]⟩
theorem c_skipA : ∀ (k fu a : Nat) (m : ic_M), cT m t n → m 2 1 = nI a → a ≤ n → n - a = k → k < fu → lpX4_skipBlanks_0 fu m = some (ic_up m 2 1 (nI (sk t n a))) := by
  intro k
  induction k with
  | zero =>
    intro fu a m hT h ha hk hf
    obtain ⟨f, rfl⟩ : ∃ f, fu = f + 1 := ⟨fu - 1, by omega⟩
    rw [lpX4_skipBlanks_0, hT.2.1, h, if_pos (nI_le (by omega) (by have := hT.1; omega)), sk_f (by omega), ← h, up_same]
  | succ k ih =>
    intro fu a m hT h ha hk hf
    have h240 := hT.1
    obtain ⟨f, rfl⟩ : ∃ f, fu = f + 1 := ⟨fu - 1, by omega⟩
    rw [lpX4_skipBlanks_0, hT.2.1, h, if_neg (nI_ge (by omega) (by omega)), c_sign hT h ha, bd_some]
    by_cases h1 : a < n ∧ t a = 32
    · rw [if_pos ((sg_32 (ct_ht hT)).mpr h1), pu_e, nI_1, ih f (a + 1) _ (cT_F (up_F m _) hT) (by rw [ic_up_eq, pk_us]) (by omega) (by omega) (by omega), sk_t h1.1 h1.2]
      congr 1
      funext b j
      unfold ic_up
      by_cases hb : b = 2 ∧ j = 1
      · rw [if_pos hb, if_pos hb]
      · rw [if_neg hb, if_neg hb, if_neg hb]
    · rw [if_neg (fun e => h1 ((sg_32 (ct_ht hT)).mp e)), sk_f h1, ← h, up_same]
theorem c_skip (hT : cT m t n) {a : Nat} (h : m 2 1 = nI a) (ha : a ≤ n) : fX4_skipBlanks m = some (ic_up m 2 1 (nI (sk t n a))) := by
  unfold fX4_skipBlanks
  rw [c_skipA (n - a) 1000 a m hT h ha rfl (by have := hT.1; omega), bd_some]
theorem m_skipA : ∀ (k fu a : Nat) (m : ic_M), mT m t n → m 90 22 = 0 → m 90 21 = nI a → a ≤ n → n - a = k → k < fu → lpX9_skips_0 fu m = some (ic_up m 90 21 (nI (sk t n a))) := by
  intro k
  induction k with
  | zero =>
    intro fu a m hT h0 h ha hk hf
    obtain ⟨f, rfl⟩ : ∃ f, fu = f + 1 := ⟨fu - 1, by omega⟩
    rw [lpX9_skips_0, if_pos h0, m_look hT h ha, bd_some, if_neg (fun e => by have := (sg_32 (mt_ht hT)).mp e; omega), sk_f (by omega), ← h, up_same]
  | succ k ih =>
    intro fu a m hT h0 h ha hk hf
    have h240 := hT.1
    obtain ⟨f, rfl⟩ : ∃ f, fu = f + 1 := ⟨fu - 1, by omega⟩
    rw [lpX9_skips_0, if_pos h0, m_look hT h ha, bd_some]
    by_cases h1 : a < n ∧ t a = 32
    · rw [if_pos ((sg_32 (mt_ht hT)).mpr h1), pu_e, h, nI_1, ih f (a + 1) _ (mT_F (up_M m _) hT) (by rw [ic_up_eq, pk_un (by omega), h0]) (by rw [ic_up_eq, pk_us]) (by omega) (by omega) (by omega), sk_t h1.1 h1.2]
      congr 1
      funext b j
      unfold ic_up
      by_cases hb : b = 90 ∧ j = 21
      · rw [if_pos hb, if_pos hb]
      · rw [if_neg hb, if_neg hb, if_neg hb]
    · rw [if_neg (fun e => h1 ((sg_32 (mt_ht hT)).mp e)), sk_f h1, ← h, up_same]
theorem m_skip (hT : mT m t n) (h0 : m 90 22 = 0) {a : Nat} (h : m 90 21 = nI a) (ha : a ≤ n) : fX9_skips m = some (ic_up m 90 21 (nI (sk t n a))) := by
  unfold fX9_skips
  rw [m_skipA (n - a) 1000 a m hT h0 h ha rfl (by have := hT.1; omega), bd_some]
theorem cst_at {s : Nat × Nat} {a : Nat} (h : cst m n s) (h0 : s.1 = 0) (ha : a ≤ n) : cst (ic_up m 2 1 (nI a)) n (0, a) := by
  obtain ⟨h1, h2, h3, h4, h5, h6⟩ := h
  refine ⟨by omega, ha, ?_, fun _ => ?_, fun h => absurd rfl h, a, ha, ?_⟩
  · rw [ic_up_eq, pk_un (by omega), h3, h0]
  · rw [ic_up_eq, pk_us]
  · rw [ic_up_eq, pk_us]
theorem cst_bad {s : Nat × Nat} {a : Nat} (h : cst m n s) (h0 : ¬ s.1 = 0) (ha : a ≤ n) : cst (ic_up m 2 1 (nI a)) n s := by
  obtain ⟨h1, h2, h3, h4, h5, h6⟩ := h
  refine ⟨h1, h2, ?_, fun h => absurd h h0, fun _ => ?_, a, ha, ?_⟩
  · rw [ic_up_eq, pk_un (by omega), h3]
  · rw [ic_up_eq, pk_un (by omega), h5 h0]
  · rw [ic_up_eq, pk_us]
theorem mst_at {s : Nat × Nat} {a : Nat} (h : mst m n s) (h0 : s.1 = 0) (ha : a ≤ n) : mst (ic_up m 90 21 (nI a)) n (0, a) := by
  obtain ⟨h1, h2, h3, h4⟩ := h
  refine ⟨by omega, ha, ?_, ?_⟩
  · rw [ic_up_eq, pk_un (by omega), h3, h0]
  · rw [ic_up_eq, pk_us]
theorem c_skS {s : Nat × Nat} (hT : cT m t n) (h : cst m n s) : ∃ m', fX4_skipBlanks m = some m' ∧ cst m' n (skS t n s) ∧ cF m m' := by
  obtain ⟨h1, h2, h3, h4, h5, j, hj, h6⟩ := id h
  by_cases h0 : s.1 = 0
  · refine ⟨_, c_skip hT (h4 h0) h2, ?_, up_F m _⟩
    unfold skS
    rw [if_pos h0]
    exact cst_at h h0 (sk_le h2).2
  · refine ⟨_, c_skip hT h6 hj, ?_, up_F m _⟩
    unfold skS
    rw [if_neg h0]
    exact cst_bad h h0 (sk_le hj).2
theorem m_skS {s : Nat × Nat} (hT : mT m t n) (h : mst m n s) : ∃ m', fX9_skips m = some m' ∧ mst m' n (skS t n s) ∧ mF m m' := by
  obtain ⟨h1, h2, h3, h4⟩ := id h
  by_cases h0 : s.1 = 0
  · refine ⟨_, m_skip hT (by rw [h3, h0]; rfl) h4 h2, ?_, up_M m _⟩
    unfold skS
    rw [if_pos h0]
    exact mst_at h h0 (sk_le h2).2
  · refine ⟨m, ?_, ?_, mF_rfl m⟩
    · unfold fX9_skips
      rw [show (1000 : Nat) = 999 + 1 from rfl, lpX9_skips_0, if_neg (by rw [h3]; exact nI_ne0 (by omega) (by omega)), bd_some]
    · unfold skS
      rw [if_neg h0]; exact h
/-- what is wrong is set down -/
theorem c_blame {s : Nat × Nat} {f a : Nat} (h : cst m n s) (h0 : s.1 = 0) (hf : f ≤ 3) (hf1 : 1 ≤ f) (ha : a ≤ n) : ∃ m', fX4_blame m (nI f) (nI a) = some m' ∧ cst m' n (f, a) ∧ cF m m' := by
  obtain ⟨h1, h2, h3, h4, h5, j, hj, h6⟩ := id h
  refine ⟨ic_up (ic_up m 2 3 (nI f)) 2 4 (nI a), ?_, ⟨hf, ha, ?_, fun h => ?_, fun _ => ?_, j, hj, ?_⟩, fun b hb => ?_, ?_⟩
  · unfold fX4_blame
    rw [if_pos (by rw [h3, h0]; rfl), pu_e, pu_e, bd_some]
  · rw [ic_up_eq, pk_un (by omega), ic_up_eq, pk_us]
  · exact absurd h (by dsimp only; omega)
  · rw [ic_up_eq, pk_us]
  · rw [ic_up_eq, pk_un (by omega), ic_up_eq, pk_un (by omega), h6]
  · rw [ic_up_ne hb, ic_up_ne hb]
  · rw [ic_up_eq, pk_un (by omega), ic_up_eq, pk_un (by omega)]
theorem m_fails {a f : Nat} (h0 : m 90 22 = 0) (h : m 90 21 = nI a) (hf : f ≤ 3) (ha : a ≤ n) : ∃ m', fX9_fails m (nI f) = some m' ∧ mst m' n (f, a) ∧ mF m m' := by
  refine ⟨ic_up m 90 22 (nI f), ?_, ⟨hf, ha, ?_, ?_⟩, fun b hb => ic_up_ne hb, fun k h1 h2 => by rw [ic_up_eq, pk_un h2]⟩
  · unfold fX9_fails
    rw [if_pos h0, bd_some, pu_e]
  · rw [ic_up_eq, pk_us]
  · rw [ic_up_eq, pk_un (by omega), h]
end RD
