/-! ===== reading a list ===== -/
def lsQ (t : Nat → Nat) (n V : Nat) : Nat → Nat → (Nat → Int32) → Nat × Nat → Nat × (Nat → Int32) × (Nat × Nat)
  | 0, c, L, s => if s.1 = 0 ∧ sg t n s.2 = 44 then (c, L, (1, s.2)) else (c, L, s)
  | k + 1, c, L, s => if s.1 = 0 ∧ sg t n s.2 = 44 then lsQ t n V k (c + 1) (upd L c (numS t n (nI 0) (nI V) (0, s.2 + 1)).1) (skS t n (numS t n (nI 0) (nI V) (0, s.2 + 1)).2) else (c, L, s)
/-- a whole list from its word at a on -/
def lsR (t : Nat → Nat) (n V B a : Nat) : Nat × (Nat → Int32) × (Nat × Nat) := lsQ t n V (B - 1) 1 (upd (fun _ => 0) 0 (numS t n (nI 0) (nI V) (0, a + 1)).1) (skS t n (numS t n (nI 0) (nI V) (0, a + 1)).2)
section LIS
variable {m : ic_M} {t : Nat → Nat} {n V : Nat}
theorem lsQ_stop {k c : Nat} {L : Nat → Int32} {s : Nat × Nat} (h : ¬ (s.1 = 0 ∧ sg t n s.2 = 44)) : lsQ t n V k c L s = (c, L, s) := by
  cases k with
  | zero => exact if_neg h
  | succ k => exact if_neg h
theorem skS_rng {s : Nat × Nat} (hs : s.2 ≤ n) (h3 : s.1 ≤ 3) : (skS t n s).2 ≤ n ∧ (skS t n s).1 ≤ 3 ∧ (skS t n s).1 = s.1 ∧ s.2 ≤ (skS t n s).2 := by
  have := sk_le (t := t) hs
  unfold skS
  by_cases h : s.1 = 0
  · rw [if_pos h]; dsimp only; omega
  · rw [if_neg h]; omega
theorem lsQ_ok (hV : V < 2 ^ 31) : ∀ (k c : Nat) (L : Nat → Int32) (s : Nat × Nat), s.2 ≤ n → s.1 ≤ 3 → c ≤ (lsQ t n V k c L s).1 ∧ (lsQ t n V k c L s).1 ≤ c + k ∧ (lsQ t n V k c L s).2.2.2 ≤ n ∧ ((lsQ t n V k c L s).2.2.1 = 0 → s.1 = 0 ∧ s.2 ≤ (lsQ t n V k c L s).2.2.2 ∧ ((∀ j, j < c → ∃ v, v ≤ V ∧ L j = nI v) → ∀ j, j < (lsQ t n V k c L s).1 → ∃ v, v ≤ V ∧ (lsQ t n V k c L s).2.1 j = nI v)) := by
  intro k
  induction k with
  | zero =>
    intro c L s hs h3
    by_cases h : s.1 = 0 ∧ sg t n s.2 = 44
    · have e : lsQ t n V 0 c L s = (c, L, (1, s.2)) := if_pos h
      rw [e]
      exact ⟨Nat.le_refl _, Nat.le_refl _, hs, fun h1 => absurd h1 (by simp)⟩
    · rw [lsQ_stop h]
      exact ⟨Nat.le_refl _, Nat.le_refl _, hs, fun h1 => ⟨h1, Nat.le_refl _, fun g => g⟩⟩
  | succ k ih =>
    intro c L s hs h3
    by_cases h : s.1 = 0 ∧ sg t n s.2 = 44
    · have hlt := sg_lt (x := 44) h.2 (by omega)
      have e : lsQ t n V (k + 1) c L s = lsQ t n V k (c + 1) (upd L c (numS t n (nI 0) (nI V) (0, s.2 + 1)).1) (skS t n (numS t n (nI 0) (nI V) (0, s.2 + 1)).2) := if_pos h
      rw [e]
      have r1 := numS_rng (t := t) (n := n) (lo := nI 0) (hi := nI V) (s := (0, s.2 + 1)) (by dsimp only; omega) (by dsimp only; omega)
      have ok := numS_ok (t := t) (n := n) (lo := 0) (hi := V) (s := (0, s.2 + 1)) (Nat.zero_le _) hV
      generalize numS t n (nI 0) (nI V) (0, s.2 + 1) = r at r1 ok
      have r2 := skS_rng (t := t) r1.1 r1.2
      obtain ⟨i1, i2, i3, i4⟩ := ih (c + 1) (upd L c r.1) (skS t n r.2) r2.1 r2.2.1
      refine ⟨by omega, by omega, i3, fun h1 => ?_⟩
      obtain ⟨j1, j2, j3⟩ := i4 h1
      have r0 : r.2.1 = 0 := by omega
      obtain ⟨-, o2, v, -, o4, o5⟩ := ok r0 (by dsimp only; omega)
      refine ⟨h.1, by dsimp only at o2; omega, fun g => j3 (fun j hj => ?_)⟩
      by_cases hjc : j = c
      · rw [hjc, pk_us]; exact ⟨v, o4, o5⟩
      · rw [pk_un hjc]; exact g j (by omega)
    · rw [lsQ_stop h]
      exact ⟨Nat.le_refl _, by omega, hs, fun h1 => ⟨h1, Nat.le_refl _, fun g => g⟩⟩
theorem cst_fr {m m' : ic_M} {s : Nat × Nat} (h : m' 2 = m 2) (hc : cst m n s) : cst m' n s := by
  unfold cst at hc ⊢
  rw [h]; exact hc
theorem mst_fr {m m' : ic_M} {s : Nat × Nat} (h : m' 90 = m 90) (hc : mst m n s) : mst m' n s := by
  unfold mst at hc ⊢
  rw [h]; exact hc
theorem c_lsA {r B : Nat} (hr : 3 < r) (hB : ic_il 106 r = B) (hB2 : B ≤ 18) : ∀ (k c fu : Nat) (m : ic_M) (s : Nat × Nat) (L : Nat → Int32), c + k + 1 = B → k + 2 ≤ fu → cT m t n → cst m n s → s.1 = 0 → (∀ j, j < c → m r j = L j) →
    ∃ m1 m2, lpX4_readList_28 r (nI V) fu (nI c) m = some (.inl (nI (lsQ t n V k (c + 1) (upd L c (numS t n (nI 0) (nI V) s).1) (skS t n (numS t n (nI 0) (nI V) s).2)).1, m1)) ∧ fX4_readEnd m1 = some m2 ∧ cst m2 n (endS t n (lsQ t n V k (c + 1) (upd L c (numS t n (nI 0) (nI V) s).1) (skS t n (numS t n (nI 0) (nI V) s).2)).2.2) ∧ (∀ j, j < (lsQ t n V k (c + 1) (upd L c (numS t n (nI 0) (nI V) s).1) (skS t n (numS t n (nI 0) (nI V) s).2)).1 → m2 r j = (lsQ t n V k (c + 1) (upd L c (numS t n (nI 0) (nI V) s).1) (skS t n (numS t n (nI 0) (nI V) s).2)).2.1 j) ∧ (∀ b, b ≠ 2 → b ≠ r → m2 b = m b) ∧ m2 2 2 = m 2 2 := by
  intro k
  induction k with
  | zero =>
    intro c fu m s L hc hf hT h h0 hL
    obtain ⟨f, rfl⟩ : ∃ f, fu = f + 1 := ⟨fu - 1, by omega⟩
    obtain ⟨m1, k1, k2, k3⟩ := c_numS (lo := nI 0) (hi := nI V) hT h
    have k1 : fX4_readNumber m 0 (nI V) = some ((numS t n (nI 0) (nI V) s).1, m1) := k1
    generalize numS t n (nI 0) (nI V) s = q at k1 k2
    have hT2 : cT (ic_up m1 r c q.1) t n := cT_fr (by rw [ic_up_ne (by omega)]) (by rw [ic_up_ne (by omega)]) (cT_F k3 hT)
    have k4 : cst (ic_up m1 r c q.1) n q.2 := cst_fr (by rw [ic_up_ne (by omega)]) k2
    obtain ⟨m3, l1, l2, l3⟩ := c_skS hT2 k4
    have hT3 := cT_F l3 hT2
    have F3 : ∀ b, b ≠ 2 → b ≠ r → m3 b = m b := fun b h1 h2 => by rw [l3.1 b h1, ic_up_ne h2, k3.1 b h1]
    have F3' : m3 2 2 = m 2 2 := by rw [l3.2, ic_up_ne (by omega), k3.2]
    have C3 : ∀ j, j < c + 1 → m3 r j = upd L c q.1 j := fun j hj => by
      rw [l3.1 r (by omega), ic_up_eq]
      by_cases hjc : j = c
      · rw [hjc, pk_us, pk_us]
      · rw [pk_un hjc, pk_un hjc, k3.1 r (by omega), hL j (by omega)]
    obtain ⟨m4, e1, e2, e3⟩ := c_endS hT3 l2
    have big : lpX4_readList_28 r (nI V) (f + 1) (nI c) m = some (.inl (nI (c + 1), m3)) := by
      obtain ⟨-, -, -, -, -, j, hj, hj2⟩ := l2
      rw [lpX4_readList_28, ic_ln, hB, if_neg (by omega), if_neg (show ¬ Int32.ofNat B ≤ nI c from nI_ge (by omega) (by omega)), if_pos (by rw [h.2.2.1, h0]; rfl), k1, bd_some, as_n (by omega) (by omega), lt_e, nI_1, l1, bd_some, c_sign hT3 hj2 hj, bd_some]
      by_cases h44 : sg t n j = 44
      · rw [if_pos h44, ic_ln, if_neg (by omega), if_pos (show nI (c + 1) = Int32.ofNat B from congrArg nI (by omega))]
      · rw [if_neg h44]
    have en : endS t n (lsQ t n V 0 (c + 1) (upd L c q.1) (skS t n q.2)).2.2 = endS t n (skS t n q.2) := by
      by_cases hs : (skS t n q.2).1 = 0 ∧ sg t n (skS t n q.2).2 = 44
      · have e : lsQ t n V 0 (c + 1) (upd L c q.1) (skS t n q.2) = (c + 1, upd L c q.1, (1, (skS t n q.2).2)) := if_pos hs
        rw [e]
        have hlt := sg_lt (x := 44) hs.2 (by omega)
        have nb : ¬ ((skS t n q.2).2 < n ∧ t (skS t n q.2).2 = 32) := fun hx => by
          rw [(sg_32 (ct_ht hT)).mpr hx] at hs
          exact absurd hs.2 (by decide)
        unfold endS
        rw [if_neg (by simp), if_pos hs.1, sk_f nb, if_neg (by rw [hs.2]; decide)]
      · rw [lsQ_stop hs]
    have cn : (lsQ t n V 0 (c + 1) (upd L c q.1) (skS t n q.2)).1 = c + 1 ∧ (lsQ t n V 0 (c + 1) (upd L c q.1) (skS t n q.2)).2.1 = upd L c q.1 := by
      by_cases hs : (skS t n q.2).1 = 0 ∧ sg t n (skS t n q.2).2 = 44
      · have e : lsQ t n V 0 (c + 1) (upd L c q.1) (skS t n q.2) = (c + 1, upd L c q.1, (1, (skS t n q.2).2)) := if_pos hs
        rw [e]; exact ⟨rfl, rfl⟩
      · rw [lsQ_stop hs]; exact ⟨rfl, rfl⟩
    rw [en, cn.1, cn.2]
    exact ⟨m3, m4, big, e1, e2, fun j hj => by rw [e3.1 r (by omega), C3 j hj], fun b h1 h2 => by rw [e3.1 b h1, F3 b h1 h2], by rw [e3.2, F3']⟩
  | succ k ih =>
    intro c fu m s L hc hf hT h h0 hL
    obtain ⟨f, rfl⟩ : ∃ f, fu = f + 1 := ⟨fu - 1, by omega⟩
    obtain ⟨m1, k1, k2, k3⟩ := c_numS (lo := nI 0) (hi := nI V) hT h
    have k1 : fX4_readNumber m 0 (nI V) = some ((numS t n (nI 0) (nI V) s).1, m1) := k1
    generalize numS t n (nI 0) (nI V) s = q at k1 k2
    have hT2 : cT (ic_up m1 r c q.1) t n := cT_fr (by rw [ic_up_ne (by omega)]) (by rw [ic_up_ne (by omega)]) (cT_F k3 hT)
    have k4 : cst (ic_up m1 r c q.1) n q.2 := cst_fr (by rw [ic_up_ne (by omega)]) k2
    obtain ⟨m3, l1, l2, l3⟩ := c_skS hT2 k4
    have hT3 := cT_F l3 hT2
    have F3 : ∀ b, b ≠ 2 → b ≠ r → m3 b = m b := fun b h1 h2 => by rw [l3.1 b h1, ic_up_ne h2, k3.1 b h1]
    have F3' : m3 2 2 = m 2 2 := by rw [l3.2, ic_up_ne (by omega), k3.2]
    have C3 : ∀ j, j < c + 1 → m3 r j = upd L c q.1 j := fun j hj => by
      rw [l3.1 r (by omega), ic_up_eq]
      by_cases hjc : j = c
      · rw [hjc, pk_us, pk_us]
      · rw [pk_un hjc, pk_un hjc, k3.1 r (by omega), hL j (by omega)]
    have start : ∀ a, a ≤ n → m3 2 1 = nI a → lpX4_readList_28 r (nI V) (f + 1) (nI c) m = if sg t n a = 44 then lpX4_readList_28 r (nI V) f (nI (c + 1)) (ic_up m3 2 1 (nI (a + 1))) else some (.inl (nI (c + 1), m3)) := fun a ha ha2 => by
      rw [lpX4_readList_28, ic_ln, hB, if_neg (by omega), if_neg (show ¬ Int32.ofNat B ≤ nI c from nI_ge (by omega) (by omega)), if_pos (by rw [h.2.2.1, h0]; rfl), k1, bd_some, as_n (by omega) (by omega), lt_e, nI_1, l1, bd_some, c_sign hT3 ha2 ha, bd_some]
      by_cases h44 : sg t n a = 44
      · rw [if_pos h44, if_pos h44, ic_ln, if_neg (by omega), if_neg (show ¬ nI (c + 1) = Int32.ofNat B from fun e => by have := (nI_eq (by omega) (by omega)).mp e; omega), pu_e, ha2, nI_1]
      · rw [if_neg h44, if_neg h44]
    by_cases hs : (skS t n q.2).1 = 0 ∧ sg t n (skS t n q.2).2 = 44
    · have hlt := sg_lt (x := 44) hs.2 (by omega)
      have e : lsQ t n V (k + 1) (c + 1) (upd L c q.1) (skS t n q.2) = lsQ t n V k (c + 1 + 1) (upd (upd L c q.1) (c + 1) (numS t n (nI 0) (nI V) (0, (skS t n q.2).2 + 1)).1) (skS t n (numS t n (nI 0) (nI V) (0, (skS t n q.2).2 + 1)).2) := if_pos hs
      rw [e, start _ l2.2.1 (l2.2.2.2.1 hs.1), if_pos hs.2]
      obtain ⟨p1, p2, i1, i2, i3, i4, i5, i6⟩ := ih (c + 1) f (ic_up m3 2 1 (nI ((skS t n q.2).2 + 1))) (0, (skS t n q.2).2 + 1) (upd L c q.1) (by omega) (by omega) (cT_F (up_F _ _) hT3) (cst_at l2 hs.1 (by omega)) rfl (fun j hj => by rw [ic_up_ne (by omega)]; exact C3 j hj)
      exact ⟨p1, p2, i1, i2, i3, i4, fun b h1 h2 => by rw [i5 b h1 h2, ic_up_ne h1, F3 b h1 h2], by rw [i6, ic_up_eq, pk_un (by omega), F3']⟩
    · rw [lsQ_stop hs]
      by_cases hz : (skS t n q.2).1 = 0
      · rw [start _ l2.2.1 (l2.2.2.2.1 hz), if_neg (fun h44 => hs ⟨hz, h44⟩)]
        obtain ⟨m4, e1, e2, e3⟩ := c_endS hT3 l2
        exact ⟨m3, m4, rfl, e1, e2, fun j hj => by rw [e3.1 r (by omega), C3 j hj], fun b h1 h2 => by rw [e3.1 b h1, F3 b h1 h2], by rw [e3.2, F3']⟩
      · obtain ⟨-, -, -, -, -, j, hj, hj2⟩ := id l2
        rw [start j hj hj2]
        by_cases h44 : sg t n j = 44
        · have hlt := sg_lt (x := 44) h44 (by omega)
          have l4 := cst_bad l2 hz (a := j + 1) (by omega)
          have hT4 : cT (ic_up m3 2 1 (nI (j + 1))) t n := cT_F (up_F _ _) hT3
          obtain ⟨f', rfl⟩ : ∃ f', f = f' + 1 := ⟨f - 1, by omega⟩
          have hz3 : (skS t n q.2).1 ≤ 3 := l2.1
          rw [if_pos h44, lpX4_readList_28, ic_ln, hB, if_neg (by omega), if_neg (show ¬ Int32.ofNat B ≤ nI (c + 1) from nI_ge (by omega) (by omega)), if_neg (by rw [l4.2.2.1]; exact nI_ne0 (by omega) (by omega))]
          obtain ⟨m4, e1, e2, e3⟩ := c_endS hT4 l4
          exact ⟨_, m4, rfl, e1, e2, fun j hj => by rw [e3.1 r (by omega), ic_up_ne (by omega), C3 j hj], fun b h1 h2 => by rw [e3.1 b h1, ic_up_ne h1, F3 b h1 h2], by rw [e3.2, ic_up_eq, pk_un (by omega), F3']⟩
        · rw [if_neg h44]
          obtain ⟨m4, e1, e2, e3⟩ := c_endS hT3 l2
          exact ⟨m3, m4, rfl, e1, e2, fun j hj => by rw [e3.1 r (by omega), C3 j hj], fun b h1 h2 => by rw [e3.1 b h1, F3 b h1 h2], by rw [e3.2, F3']⟩
theorem c_list {r B a : Nat} (hr : 3 < r) (hB : ic_il 106 r = B) (hB2 : B ≤ 18) (hB1 : 1 ≤ B) (hT : cT m t n) (h : cst m n (0, a)) (ha : a < n) : ∃ m2, fX4_readList m r 0 (nI V) = some (nI (lsR t n V B a).1, m2) ∧ cst m2 n (endS t n (lsR t n V B a).2.2) ∧ (∀ j, j < (lsR t n V B a).1 → m2 r j = (lsR t n V B a).2.1 j) ∧ (∀ b, b ≠ 2 → b ≠ r → m2 b = m b) ∧ m2 2 2 = m 2 2 := by
  have h1 : m 2 1 = nI a := h.2.2.2.1 rfl
  obtain ⟨p1, p2, i1, i2, i3, i4, i5, i6⟩ := c_lsA (t := t) (n := n) (V := V) hr hB hB2 (B - 1) 0 1000 (ic_up m 2 1 (nI (a + 1))) (0, a + 1) (fun _ => 0) (by omega) (by omega) (cT_F (up_F _ _) hT) (cst_at h rfl (by omega)) rfl (fun j hj => absurd hj (by omega))
  refine ⟨p2, ?_, i3, i4, fun b h1 h2 => by rw [i5 b h1 h2, ic_up_ne h1], by rw [i6, ic_up_eq, pk_un (by omega)]⟩
  have i1 : lpX4_readList_28 r (nI V) 1000 0 (ic_up m 2 1 (nI (a + 1))) = some (.inl (nI (lsR t n V B a).1, p1)) := i1
  unfold fX4_readList
  rw [if_pos rfl, pu_e, h1, nI_1, i1, bd_some]
  show Option.bind (fX4_readEnd p1) (fun m32 => some (nI (lsR t n V B a).1, m32)) = _
  rw [i2, bd_some]
theorem c_listA {r a c : Nat} {x : Int32} (h : cst m n (0, a)) (hc : 1 ≤ c) (hc2 : c ≤ 18) : ∃ m2, fX4_readList m r (nI c) x = some (nI c, m2) ∧ cst m2 n (3, a) ∧ cF m m2 := by
  obtain ⟨m1, k1, k2, k3⟩ := c_blame (f := 3) (a := a) h rfl (by omega) (by omega) h.2.1
  have k1 : fX4_blame m 3 (nI a) = some m1 := k1
  have h1 : m 2 1 = nI a := h.2.2.2.1 rfl
  refine ⟨m1, ?_, k2, k3⟩
  unfold fX4_readList
  rw [if_neg (nI_ne0 (by omega) (by omega)), h1, k1, bd_some]
end LIS
