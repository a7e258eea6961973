/-! ===== reading a number, and the end of a clause ===== -/
def fg (t : Nat → Nat) (n a : Nat) : Bool := wi (sg t n a) 48 57
/-- the figures from a on, and what they say: the first three count -/
def vlN (t : Nat → Nat) (n a0 : Nat) : Nat → Nat → Int32 → Int32 × Nat
  | 0, a, v => (v, a)
  | k + 1, a, v => if fg t n a = true then vlN t n a0 k (a + 1) (if 3 ≤ a - a0 then v else v * 10 + sg t n a - 48) else (v, a)
def numS (t : Nat → Nat) (n : Nat) (lo hi : Int32) (s : Nat × Nat) : Int32 × (Nat × Nat) :=
  if s.1 = 0 then
    (if fg t n (sk t n s.2) = true then ((vlN t n (sk t n s.2) (n - sk t n s.2) (sk t n s.2) 0).1, if 3 < (vlN t n (sk t n s.2) (n - sk t n s.2) (sk t n s.2) 0).2 - sk t n s.2 ∨ wi (vlN t n (sk t n s.2) (n - sk t n s.2) (sk t n s.2) 0).1 lo hi = false then (2, sk t n s.2) else (0, (vlN t n (sk t n s.2) (n - sk t n s.2) (sk t n s.2) 0).2)) else (0, (1, sk t n s.2)))
  else (0, s)
def endS (t : Nat → Nat) (n : Nat) (s : Nat × Nat) : Nat × Nat := if s.1 = 0 then (if sg t n (sk t n s.2) = 59 then (0, sk t n s.2 + 1) else (1, sk t n s.2)) else s
section NUM
variable {m : ic_M} {t : Nat → Nat} {n : Nat}
theorem fg_lt {a : Nat} (h : fg t n a = true) : a < n := by
  unfold fg sg at h
  by_cases h1 : a < n
  · exact h1
  · rw [if_neg h1] at h
    exact absurd h (by decide)
theorem vlN_le {a0 : Nat} : ∀ {k a : Nat} {v : Int32}, a ≤ n → a ≤ (vlN t n a0 k a v).2 ∧ (vlN t n a0 k a v).2 ≤ n
  | 0, a, v, h => ⟨Nat.le_refl _, h⟩
  | k + 1, a, v, h => by
    show a ≤ (if fg t n a = true then vlN t n a0 k (a + 1) (if 3 ≤ a - a0 then v else v * 10 + sg t n a - 48) else (v, a)).2 ∧ (if fg t n a = true then vlN t n a0 k (a + 1) (if 3 ≤ a - a0 then v else v * 10 + sg t n a - 48) else (v, a)).2 ≤ n
    by_cases h1 : fg t n a = true
    · rw [if_pos h1]
      have h2 := fg_lt h1
      have := vlN_le (a0 := a0) (k := k) (a := a + 1) (v := (if 3 ≤ a - a0 then v else v * 10 + sg t n a - 48)) (by omega)
      omega
    · rw [if_neg h1]
      exact ⟨Nat.le_refl _, h⟩
theorem vlN_lt {a0 a : Nat} (h : fg t n a = true) : a < (vlN t n a0 (n - a) a 0).2 := by
  have h1 := fg_lt h
  rw [show n - a = (n - a - 1) + 1 by omega]
  show a < (if fg t n a = true then vlN t n a0 (n - a - 1) (a + 1) (if 3 ≤ a - a0 then 0 else 0 * 10 + sg t n a - 48) else (0, a)).2
  rw [if_pos h]
  have := vlN_le (t := t) (n := n) (a0 := a0) (k := n - a - 1) (a := a + 1) (v := (if 3 ≤ a - a0 then 0 else 0 * 10 + sg t n a - 48)) (by omega)
  omega
theorem c_fig (x : Int32) : fX4_isFigure m x = some (bI (wi x 48 57)) := by
  unfold fX4_isFigure wi
  by_cases h1 : x < 48
  · simp [h1, bd_some, rz_0, bI]
  · by_cases h2 : (57 : Int32) < x
    · simp [h1, h2, bd_some, rz_0, bI]
    · simp [h1, h2, bd_some, rz_1, bI]
theorem up_up (m : ic_M) (r k : Nat) (v w : Int32) : ic_up (ic_up m r k v) r k w = ic_up m r k w := by
  funext b j
  unfold ic_up
  by_cases hb : b = r ∧ j = k
  · rw [if_pos hb, if_pos hb]
  · rw [if_neg hb, if_neg hb, if_neg hb]
theorem three {a a0 : Nat} (h : a0 ≤ a) (ha : a ≤ 240) {α : Type} {X Y : α} : (if (3 : Int32) ≤ nI a - nI a0 then X else Y) = if 3 ≤ a - a0 then X else Y := by
  rw [pk_sub h]
  by_cases h1 : 3 ≤ a - a0
  · rw [if_pos h1, if_pos (show (3 : Int32) ≤ nI (a - a0) from nI_le (a := 3) h1 (by omega))]
  · rw [if_neg h1, if_neg (show ¬ (3 : Int32) ≤ nI (a - a0) from nI_ge (b := 3) (by omega) (by omega))]
theorem three' {a a0 : Nat} (h : a0 ≤ a) (ha : a ≤ 240) {α : Type} {X Y : α} : (if (3 : Int32) < nI a - nI a0 then X else Y) = if 3 < a - a0 then X else Y := by
  rw [pk_sub h]
  by_cases h1 : 3 < a - a0
  · rw [if_pos h1, if_pos (show (3 : Int32) < nI (a - a0) from nI_lt (a := 3) h1 (by omega))]
  · rw [if_neg h1, if_neg (show ¬ (3 : Int32) < nI (a - a0) from nI_nlt (a := 3) (by omega) (by omega))]
theorem if_bd {α β : Type} {c : Prop} [Decidable c] {x y : α} {T : α → Option β} : Option.bind (if c then some x else some y) T = T (if c then x else y) := by
  by_cases h : c
  · rw [if_pos h, if_pos h, bd_some]
  · rw [if_neg h, if_neg h, bd_some]
theorem c_numA {a0 : Nat} {x1 x2 : Int32} : ∀ (k fu a : Nat) (v : Int32) (m : ic_M), cT m t n → m 2 1 = nI a → a0 ≤ a → a ≤ n → n - a = k → k < fu → lpX4_readNumber_21 x1 x2 (nI a0) fu v m = some ((vlN t n a0 k a v).1, ic_up m 2 1 (nI (vlN t n a0 k a v).2)) := by
  intro k
  induction k with
  | zero =>
    intro fu a v m hT h h0 ha hk hf
    obtain ⟨f, rfl⟩ : ∃ f, fu = f + 1 := ⟨fu - 1, by omega⟩
    rw [lpX4_readNumber_21, hT.2.1, h, if_pos (nI_le (by omega) (by have := hT.1; omega))]
    show _ = some (v, ic_up m 2 1 (nI a))
    rw [← h, up_same]
  | succ k ih =>
    intro fu a v m hT h h0 ha hk hf
    have h240 := hT.1
    obtain ⟨f, rfl⟩ : ∃ f, fu = f + 1 := ⟨fu - 1, by omega⟩
    rw [lpX4_readNumber_21, hT.2.1, h, if_neg (nI_ge (by omega) (by omega)), c_sign hT h ha, bd_some, c_fig, bd_some]
    show _ = some ((if fg t n a = true then vlN t n a0 k (a + 1) (if 3 ≤ a - a0 then v else v * 10 + sg t n a - 48) else (v, a)).1, ic_up m 2 1 (nI (if fg t n a = true then vlN t n a0 k (a + 1) (if 3 ≤ a - a0 then v else v * 10 + sg t n a - 48) else (v, a)).2))
    cases hg : fg t n a
    · have hg' : wi (sg t n a) 48 57 = false := hg
      rw [hg', bI_f, if_pos rfl, if_neg (by simp)]
      dsimp only
      rw [← h, up_same]
    · have hg' : wi (sg t n a) 48 57 = true := hg
      rw [hg', bI_t, if_neg one_ne0, bd_some, three h0 (by omega), if_bd, pu_e, nI_1, if_pos rfl, ih f (a + 1) _ _ (cT_F (up_F m _) hT) (by rw [ic_up_eq, pk_us]) (by omega) (by omega) (by omega) (by omega), up_up]
theorem m_numA {a0 : Nat} {x1 x2 : Int32} : ∀ (k fu a : Nat) (v : Int32) (m : ic_M), mT m t n → m 90 21 = nI a → a0 ≤ a → a ≤ n → n - a = k → k < fu → lpX9_number_42 x1 x2 (nI a0) fu v m = some ((vlN t n a0 k a v).1, ic_up m 90 21 (nI (vlN t n a0 k a v).2)) := by
  intro k
  induction k with
  | zero =>
    intro fu a v m hT h h0 ha hk hf
    obtain ⟨f, rfl⟩ : ∃ f, fu = f + 1 := ⟨fu - 1, by omega⟩
    have hg : wi (sg t n a) 48 57 = false := by
      unfold sg
      rw [if_neg (by omega)]; decide
    rw [lpX9_number_42, m_look hT h ha, bd_some, in_e, bd_some, hg, bI_f, if_pos rfl]
    show _ = some (v, ic_up m 90 21 (nI a))
    rw [← h, up_same]
  | succ k ih =>
    intro fu a v m hT h h0 ha hk hf
    have h240 := hT.1
    obtain ⟨f, rfl⟩ : ∃ f, fu = f + 1 := ⟨fu - 1, by omega⟩
    rw [lpX9_number_42, m_look hT h ha, bd_some, in_e, bd_some]
    show _ = some ((if fg t n a = true then vlN t n a0 k (a + 1) (if 3 ≤ a - a0 then v else v * 10 + sg t n a - 48) else (v, a)).1, ic_up m 90 21 (nI (if fg t n a = true then vlN t n a0 k (a + 1) (if 3 ≤ a - a0 then v else v * 10 + sg t n a - 48) else (v, a)).2))
    cases hg : fg t n a
    · have hg' : wi (sg t n a) 48 57 = false := hg
      rw [hg', bI_f, if_pos rfl, if_neg (by simp)]
      dsimp only
      rw [← h, up_same]
    · have hg' : wi (sg t n a) 48 57 = true := hg
      rw [hg', bI_t, if_neg one_ne0, bd_some, h, three h0 (by omega), if_bd, pu_e, nI_1, if_pos rfl, Int32.mul_comm 10 v, ih f (a + 1) _ _ (mT_F (up_M m _) hT) (by rw [ic_up_eq, pk_us]) (by omega) (by omega) (by omega) (by omega), up_up]
theorem c_numS {lo hi : Int32} {s : Nat × Nat} (hT : cT m t n) (h : cst m n s) : ∃ m', fX4_readNumber m lo hi = some ((numS t n lo hi s).1, m') ∧ cst m' n (numS t n lo hi s).2 ∧ cF m m' := by
  obtain ⟨h1, h2, h3, h4, h5, j, hj, h6⟩ := id h
  have h240 := hT.1
  unfold fX4_readNumber numS
  by_cases h0 : s.1 = 0
  · rw [if_pos h0, if_pos (by rw [h3, h0]; rfl), c_skip hT (h4 h0) h2, bd_some]
    have hle := sk_le (t := t) h2
    generalize hA : sk t n s.2 = a0 at hle
    have hT1 : cT (ic_up m 2 1 (nI a0)) t n := cT_F (up_F m _) hT
    have e1 : ic_up m 2 1 (nI a0) 2 1 = nI a0 := by rw [ic_up_eq, pk_us]
    have hs1 : cst (ic_up m 2 1 (nI a0)) n (0, a0) := cst_at h h0 hle.2
    rw [lt_e, e1, c_numA (n - a0) 1000 a0 0 _ hT1 e1 (Nat.le_refl _) hle.2 rfl (by omega), bd_some, up_up]
    have hv := vlN_le (t := t) (n := n) (a0 := a0) (k := n - a0) (a := a0) (v := 0) hle.2
    have hlt := fun hh => vlN_lt (t := t) (n := n) (a0 := a0) (a := a0) hh
    have hz : fg t n a0 = false → vlN t n a0 (n - a0) a0 0 = (0, a0) := fun hh => by
      cases hk : n - a0 with
      | zero => rfl
      | succ k =>
        show (if fg t n a0 = true then _ else ((0 : Int32), a0)) = _
        rw [if_neg (by rw [hh]; simp)]
    generalize hr : vlN t n a0 (n - a0) a0 0 = r at hv hlt hz
    dsimp only
    have e2 : ic_up m 2 1 (nI r.2) 2 1 = nI r.2 := by rw [ic_up_eq, pk_us]
    have hs2 : cst (ic_up m 2 1 (nI r.2)) n (0, r.2) := cst_at h h0 hv.2
    simp only [e2]
    cases hg : fg t n a0
    · simp only [Bool.false_eq_true, if_false]
      have hr2 := hz hg
      rw [hr2]
      dsimp only
      obtain ⟨m1, k1, k2, k3⟩ := c_blame (f := 1) (a := a0) (hr2 ▸ hs2) rfl (by omega) (by omega) hle.2
      have k1 : fX4_blame (ic_up m 2 1 (nI a0)) 1 (nI a0) = some m1 := k1
      refine ⟨m1, ?_, k2, cF_tr (up_F m _) k3⟩
      rw [if_pos rfl, k1, bd_some, bd_some]
    · rw [if_pos rfl]
      have hlt := hlt hg
      rw [if_neg (fun e => by have := (nI_eq (by omega) (by omega)).mp e; omega), three' (by omega) (by omega)]
      obtain ⟨m1, k1, k2, k3⟩ := c_blame (f := 2) (a := a0) hs2 rfl (by omega) (by omega) hle.2
      have k1 : fX4_blame (ic_up m 2 1 (nI r.2)) 2 (nI a0) = some m1 := k1
      by_cases c3 : 3 < r.2 - a0
      · rw [if_pos c3, if_pos (Or.inl c3)]
        exact ⟨m1, by rw [k1, bd_some, bd_some], k2, cF_tr (up_F m _) k3⟩
      · rw [if_neg c3]
        by_cases c1 : r.1 < lo
        · rw [if_pos c1, if_pos (Or.inr (by simp [wi, c1]))]
          exact ⟨m1, by rw [k1, bd_some, bd_some], k2, cF_tr (up_F m _) k3⟩
        · rw [if_neg c1]
          by_cases c2 : r.1 ≤ hi
          · have c4 : ¬ hi < r.1 := fun c5 => by
              rw [Int32.lt_iff_toInt_lt] at c5
              rw [Int32.le_iff_toInt_le] at c2
              omega
            rw [if_pos c2, if_neg (by
              rintro (h | h)
              · exact c3 h
              · simp [wi, c1, c4] at h)]
            exact ⟨_, by rw [bd_some], hs2, up_F m _⟩
          · have c4 : hi < r.1 := by
              rw [Int32.le_iff_toInt_le] at c2
              rw [Int32.lt_iff_toInt_lt]
              omega
            rw [if_neg c2, if_pos (Or.inr (by simp [wi, c4]))]
            exact ⟨m1, by rw [k1, bd_some, bd_some], k2, cF_tr (up_F m _) k3⟩
  · rw [if_neg h0, if_neg (by rw [h3]; exact nI_ne0 (by omega) (by omega))]
    exact ⟨m, rfl, h, cF_rfl m⟩
theorem m_numS {lo hi : Int32} {s : Nat × Nat} (hT : mT m t n) (h : mst m n s) : ∃ m', fX9_number m lo hi = some ((numS t n lo hi s).1, m') ∧ mst m' n (numS t n lo hi s).2 ∧ mF m m' := by
  obtain ⟨h1, h2, h3, h4⟩ := id h
  have h240 := hT.1
  unfold fX9_number numS
  by_cases h0 : s.1 = 0
  · rw [if_pos h0, m_skip hT (by rw [h3, h0]; rfl) h4 h2, bd_some]
    have hle := sk_le (t := t) h2
    generalize hA : sk t n s.2 = a0 at hle
    have hT1 : mT (ic_up m 90 21 (nI a0)) t n := mT_F (up_M m _) hT
    have e1 : ic_up m 90 21 (nI a0) 90 21 = nI a0 := by rw [ic_up_eq, pk_us]
    have w1 : ∀ x, ic_up m 90 21 x 90 22 = 0 := fun x => by rw [ic_up_eq, pk_un (by omega), h3, h0]; rfl
    have hs1 : mst (ic_up m 90 21 (nI a0)) n (0, a0) := mst_at h h0 hle.2
    rw [if_pos (w1 _), m_look hT1 e1 hle.2, bd_some, in_e, bd_some]
    have hv := vlN_le (t := t) (n := n) (a0 := a0) (k := n - a0) (a := a0) (v := 0) hle.2
    have hlt := fun hh => vlN_lt (t := t) (n := n) (a0 := a0) (a := a0) hh
    cases hg : fg t n a0
    · have hg' : wi (sg t n a0) 48 57 = false := hg
      obtain ⟨m1, k1, k2, k3⟩ := m_fails (f := 1) (n := n) (w1 _) e1 (by omega) hle.2
      have k1 : fX9_fails (ic_up m 90 21 (nI a0)) 1 = some m1 := k1
      rw [hg', bI_f, if_pos rfl, if_neg (by simp), k1, bd_some]
      exact ⟨m1, rfl, k2, mF_tr (up_M m _) k3⟩
    · have hg' : wi (sg t n a0) 48 57 = true := hg
      have hlt := hlt hg
      rw [hg', bI_t, if_neg one_ne0, if_pos rfl, lt_e, e1, m_numA (n - a0) 1000 a0 0 _ hT1 e1 (Nat.le_refl _) hle.2 rfl (by omega), bd_some, up_up]
      generalize hr : vlN t n a0 (n - a0) a0 0 = r at hv hlt
      dsimp only
      have e2 : ic_up m 90 21 (nI r.2) 90 21 = nI r.2 := by rw [ic_up_eq, pk_us]
      obtain ⟨m1, k1, k2, k3⟩ := m_fails (m := ic_up m 90 21 (nI a0)) (f := 2) (n := n) (w1 _) e1 (by omega) hle.2
      have k1 : fX9_fails (ic_up m 90 21 (nI a0)) 2 = some m1 := k1
      simp only [e2]
      rw [three' (by omega) (by omega)]
      by_cases c3 : 3 < r.2 - a0
      · rw [if_pos c3, if_pos (Or.inl c3), pu_e, up_up]
        exact ⟨m1, by rw [k1, bd_some, bd_some], k2, mF_tr (up_M m _) k3⟩
      · rw [if_neg c3, in_e, bd_some]
        cases hw : wi r.1 lo hi
        · rw [bI_f, if_pos rfl, if_pos (Or.inr rfl), pu_e, up_up]
          exact ⟨m1, by rw [k1, bd_some, bd_some], k2, mF_tr (up_M m _) k3⟩
        · rw [bI_t, if_neg one_ne0, if_neg (by
            rintro (h | h)
            · exact c3 h
            · cases h), bd_some]
          exact ⟨_, rfl, mst_at h h0 hv.2, up_M m _⟩
  · rw [if_neg h0]
    obtain ⟨m1, k1, k2, k3⟩ := m_skS hT h
    have e : skS t n s = s := by unfold skS; rw [if_neg h0]
    rw [e] at k2
    rw [k1, bd_some, if_neg (by rw [k2.2.2.1]; exact nI_ne0 (by omega) (by omega))]
    exact ⟨m1, rfl, k2, k3⟩
theorem numS_ok {lo hi : Nat} {s : Nat × Nat} (hlh : lo ≤ hi) (hh : hi < 2 ^ 31) (h : (numS t n (nI lo) (nI hi) s).2.1 = 0) (hs : s.2 ≤ n) : s.1 = 0 ∧ s.2 < (numS t n (nI lo) (nI hi) s).2.2 ∧ ∃ v, lo ≤ v ∧ v ≤ hi ∧ (numS t n (nI lo) (nI hi) s).1 = nI v := by
  have hle := sk_le (t := t) hs
  unfold numS at h ⊢
  by_cases h0 : s.1 = 0
  · rw [if_pos h0] at h ⊢
    cases hg : fg t n (sk t n s.2)
    · rw [hg, if_neg (by simp)] at h
      exact absurd h (by simp)
    · rw [hg, if_pos rfl] at h
      have hlt := vlN_lt (t := t) (n := n) (a0 := sk t n s.2) hg
      rw [if_pos rfl]
      dsimp only at h ⊢
      by_cases hc : 3 < (vlN t n (sk t n s.2) (n - sk t n s.2) (sk t n s.2) 0).2 - sk t n s.2 ∨ wi (vlN t n (sk t n s.2) (n - sk t n s.2) (sk t n s.2) 0).1 (nI lo) (nI hi) = false
      · rw [if_pos hc] at h
        exact absurd h (by simp)
      · rw [if_neg hc]
        have hw : wi (vlN t n (sk t n s.2) (n - sk t n s.2) (sk t n s.2) 0).1 (nI lo) (nI hi) = true := by
          cases hw : wi (vlN t n (sk t n s.2) (n - sk t n s.2) (sk t n s.2) 0).1 (nI lo) (nI hi)
          · exact absurd (Or.inr hw) hc
          · rfl
        refine ⟨h0, by omega, ?_⟩
        obtain ⟨v, a1, a2, a3⟩ := (wi_n hlh hh).mp hw
        exact ⟨v, a1, a2, a3⟩
  · rw [if_neg h0] at h
    exact absurd h h0
theorem numS_rng {lo hi : Int32} {s : Nat × Nat} (hs : s.2 ≤ n) (h3 : s.1 ≤ 3) : (numS t n lo hi s).2.2 ≤ n ∧ (numS t n lo hi s).2.1 ≤ 3 := by
  have hle := sk_le (t := t) hs
  have hv := vlN_le (t := t) (n := n) (a0 := sk t n s.2) (k := n - sk t n s.2) (a := sk t n s.2) (v := 0) hle.2
  unfold numS
  split
  · split
    · dsimp only
      split <;> dsimp only <;> omega
    · dsimp only; omega
  · exact ⟨hs, h3⟩
theorem numS_bad {lo hi : Int32} {s : Nat × Nat} (h : ¬ s.1 = 0) : numS t n lo hi s = (0, s) := by
  unfold numS; rw [if_neg h]
theorem sg_lt {a : Nat} {x : Nat} (h : sg t n a = nI x) (hx : x < 2 ^ 31) : a < n := by
  unfold sg at h
  by_cases h1 : a < n
  · exact h1
  · rw [if_neg h1] at h
    have := congrArg Int32.toInt h
    rw [nI_toInt hx] at this
    have h2 : (-1 : Int32).toInt = -1 := by decide
    omega
theorem endS_ok {s : Nat × Nat} (h : (endS t n s).1 = 0) (hs : s.2 ≤ n) : s.1 = 0 ∧ s.2 < (endS t n s).2 := by
  have hle := sk_le (t := t) hs
  unfold endS at h ⊢
  by_cases h0 : s.1 = 0
  · rw [if_pos h0] at h ⊢
    by_cases h1 : sg t n (sk t n s.2) = 59
    · rw [if_pos h1] at h ⊢
      exact ⟨h0, by dsimp only; omega⟩
    · rw [if_neg h1] at h
      exact absurd h (by simp)
  · rw [if_neg h0] at h
    exact absurd h h0
theorem c_endS {s : Nat × Nat} (hT : cT m t n) (h : cst m n s) : ∃ m', fX4_readEnd m = some m' ∧ cst m' n (endS t n s) ∧ cF m m' := by
  obtain ⟨h1, h2, h3, h4, h5, j, hj, h6⟩ := id h
  unfold fX4_readEnd endS
  by_cases h0 : s.1 = 0
  · have hle := sk_le (t := t) h2
    rw [if_pos h0, if_pos (by rw [h3, h0]; rfl), c_skip hT (h4 h0) h2, bd_some]
    generalize hA : sk t n s.2 = a0 at hle
    have e1 : ic_up m 2 1 (nI a0) 2 1 = nI a0 := by rw [ic_up_eq, pk_us]
    rw [c_sign (cT_F (up_F m _) hT) e1 hle.2, bd_some, e1]
    by_cases hg : sg t n a0 = 59
    · have hlt := sg_lt (x := 59) hg (by omega)
      rw [if_pos hg, if_pos hg, pu_e, nI_1, up_up, bd_some]
      exact ⟨_, rfl, cst_at h h0 (by omega), up_F m _⟩
    · obtain ⟨m1, k1, k2, k3⟩ := c_blame (f := 1) (a := a0) (cst_at h h0 hle.2) rfl (by omega) (by omega) hle.2
      have k1 : fX4_blame (ic_up m 2 1 (nI a0)) 1 (nI a0) = some m1 := k1
      rw [if_neg hg, if_neg hg, k1, bd_some, bd_some]
      exact ⟨m1, rfl, k2, cF_tr (up_F m _) k3⟩
  · rw [if_neg h0, if_neg (by rw [h3]; exact nI_ne0 (by omega) (by omega))]
    exact ⟨m, rfl, h, cF_rfl m⟩
theorem m_endS {s : Nat × Nat} (hT : mT m t n) (h : mst m n s) : ∃ m', fX9_word m 59 = some m' ∧ mst m' n (endS t n s) ∧ mF m m' := by
  obtain ⟨h1, h2, h3, h4⟩ := id h
  unfold fX9_word endS
  by_cases h0 : s.1 = 0
  · have hle := sk_le (t := t) h2
    rw [if_pos h0, m_skip hT (by rw [h3, h0]; rfl) h4 h2, bd_some]
    generalize hA : sk t n s.2 = a0 at hle
    have e1 : ic_up m 90 21 (nI a0) 90 21 = nI a0 := by rw [ic_up_eq, pk_us]
    have w1 : ic_up m 90 21 (nI a0) 90 22 = 0 := by rw [ic_up_eq, pk_un (by omega), h3, h0]; rfl
    rw [if_pos w1, m_look (mT_F (up_M m _) hT) e1 hle.2, bd_some, e1]
    by_cases hg : sg t n a0 = 59
    · have hlt := sg_lt (x := 59) hg (by omega)
      rw [if_pos hg, if_pos hg, pu_e, nI_1, up_up, bd_some]
      exact ⟨_, rfl, mst_at h h0 (by omega), up_M m _⟩
    · obtain ⟨m1, k1, k2, k3⟩ := m_fails (f := 1) (n := n) w1 e1 (by omega) hle.2
      have k1 : fX9_fails (ic_up m 90 21 (nI a0)) 1 = some m1 := k1
      rw [if_neg hg, if_neg hg, k1, bd_some, bd_some]
      exact ⟨m1, rfl, k2, mF_tr (up_M m _) k3⟩
  · rw [if_neg h0]
    obtain ⟨m1, k1, k2, k3⟩ := m_skS hT h
    have e : skS t n s = s := by unfold skS; rw [if_neg h0]
    rw [e] at k2
    rw [k1, bd_some, if_neg (by rw [k2.2.2.1]; exact nI_ne0 (by omega) (by omega)), bd_some]
    exact ⟨m1, rfl, k2, k3⟩
end NUM
