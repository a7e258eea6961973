/-! ===== reading a list: the reference ===== -/
def mG (w o B : Nat) (m m' : ic_M) : Prop := (∀ b, b ≠ 90 → b ≠ 95 → b ≠ 96 → m' b = m b) ∧ (∀ x, x ≠ 21 → x ≠ 22 → m' 90 x = m 90 x) ∧ (∀ x, x ≠ w → m' 95 x = m 95 x) ∧ ∀ x, ¬ (o ≤ x ∧ x < o + B) → m' 96 x = m 96 x
section LIM
variable {m : ic_M} {t : Nat → Nat} {n V : Nat}
theorem mG_rfl (w o B : Nat) (m : ic_M) : mG w o B m m := ⟨fun _ _ _ _ => rfl, fun _ _ _ => rfl, fun _ _ => rfl, fun _ _ => rfl⟩
theorem mG_tr {w o B : Nat} {a b c : ic_M} (h : mG w o B a b) (g : mG w o B b c) : mG w o B a c := ⟨fun x h1 h2 h3 => by rw [g.1 x h1 h2 h3, h.1 x h1 h2 h3], fun x h1 h2 => by rw [g.2.1 x h1 h2, h.2.1 x h1 h2], fun x h1 => by rw [g.2.2.1 x h1, h.2.2.1 x h1], fun x h1 => by rw [g.2.2.2 x h1, h.2.2.2 x h1]⟩
theorem mG_F {w o B : Nat} {a b : ic_M} (h : mF a b) : mG w o B a b := ⟨fun x h1 _ _ => h.1 x h1, h.2, fun x _ => by rw [h.1 95 (by omega)], fun x _ => by rw [h.1 96 (by omega)]⟩
theorem mG_95 {w o B : Nat} {v : Int32} : mG w o B m (ic_up m 95 w v) := ⟨fun x _ h2 _ => ic_up_ne h2, fun x _ _ => by rw [ic_up_ne (by omega)], fun x h => by rw [ic_up_eq, pk_un h], fun x _ => by rw [ic_up_ne (by omega)]⟩
theorem mG_96 {w o B c : Nat} {v : Int32} (h : c < B) : mG w o B m (ic_up m 96 (o + c) v) := ⟨fun x _ _ h3 => ic_up_ne h3, fun x _ _ => by rw [ic_up_ne (by omega)], fun x _ => by rw [ic_up_ne (by omega)], fun x h => by rw [ic_up_eq, pk_un (by omega)]⟩
theorem mT_G {w o B : Nat} {m m' : ic_M} (f : mG w o B m m') (h : mT m t n) : mT m' t n := mT_fr (f.2.1 1 (by omega) (by omega)) (f.1 91 (by omega) (by omega) (by omega)) h
theorem mst_skS_bad {s : Nat × Nat} (h : ¬ s.1 = 0) : skS t n s = s := by unfold skS; rw [if_neg h]
theorem m_lsA {w o B : Nat} (hw : w < 7) (ho : o + B ≤ 36) (hB2 : B ≤ 18) : ∀ (k c fu : Nat) (m : ic_M) (s : Nat × Nat) (L : Nat → Int32), c + k = B → k + 2 ≤ fu → mT m t n → mst m n s → m 95 w = nI c → (∀ j, j < c → m 96 (o + j) = L j) →
    ∃ m1, lpX9_readsList_45 (nI w) (nI o) (nI B) (nI V) fu m = some m1 ∧ mst m1 n (lsQ t n V k c L s).2.2 ∧ m1 95 w = nI (lsQ t n V k c L s).1 ∧ (∀ j, j < (lsQ t n V k c L s).1 → m1 96 (o + j) = (lsQ t n V k c L s).2.1 j) ∧ mG w o B m m1 := by
  have stop : ∀ (k c fu : Nat) (m : ic_M) (s : Nat × Nat) (L : Nat → Int32), ¬ (s.1 = 0 ∧ sg t n s.2 = 44) → mT m t n → mst m n s → m 95 w = nI c → (∀ j, j < c → m 96 (o + j) = L j) → ∃ m1, lpX9_readsList_45 (nI w) (nI o) (nI B) (nI V) (fu + 1) m = some m1 ∧ mst m1 n (lsQ t n V k c L s).2.2 ∧ m1 95 w = nI (lsQ t n V k c L s).1 ∧ (∀ j, j < (lsQ t n V k c L s).1 → m1 96 (o + j) = (lsQ t n V k c L s).2.1 j) ∧ mG w o B m m1 := fun k c fu m s L hs hT h hc hL => by
    rw [lsQ_stop hs]
    refine ⟨m, ?_, h, hc, hL, mG_rfl _ _ _ m⟩
    have h3 := h.1
    rw [lpX9_readsList_45]
    by_cases hz : s.1 = 0
    · rw [if_pos (by rw [h.2.2.1, hz]; rfl), m_look hT h.2.2.2 h.2.1, bd_some, if_neg (fun e => hs ⟨hz, e⟩)]
    · rw [if_neg (by rw [h.2.2.1]; exact nI_ne0 (by omega) (by omega))]
  intro k
  induction k with
  | zero =>
    intro c fu m s L hc hf hT h h95 hL
    obtain ⟨f, rfl⟩ : ∃ f, fu = f + 1 + 1 := ⟨fu - 2, by omega⟩
    by_cases hs : s.1 = 0 ∧ sg t n s.2 = 44
    · have e : lsQ t n V 0 c L s = (c, L, (1, s.2)) := if_pos hs
      rw [e]
      obtain ⟨m1, k1, k2, k3⟩ := m_fails (f := 1) (n := n) (by rw [h.2.2.1, hs.1]; rfl) h.2.2.2 (by omega) h.2.1
      have k1 : fX9_fails m 1 = some m1 := k1
      obtain ⟨m2, l1, l2, l3⟩ := m_skS (mT_F k3 hT) k2
      rw [mst_skS_bad (by simp)] at l2
      refine ⟨m2, ?_, l2, by rw [l3.1 95 (by omega), k3.1 95 (by omega)]; exact h95, fun j hj => by rw [l3.1 96 (by omega), k3.1 96 (by omega)]; exact hL j hj, mG_F (mF_tr k3 l3)⟩
      rw [lpX9_readsList_45, if_pos (by rw [h.2.2.1, hs.1]; rfl), m_look hT h.2.2.2 h.2.1, bd_some, if_pos hs.2, ag_n hw (by omega), h95, if_pos (congrArg nI (by omega)), k1, bd_some, bd_some, l1, bd_some, lpX9_readsList_45, if_neg (by rw [l2.2.2.1]; exact nI_ne0 (by simp) (by simp))]
    · exact stop 0 c (f + 1) m s L hs hT h h95 hL
  | succ k ih =>
    intro c fu m s L hc hf hT h h95 hL
    obtain ⟨f, rfl⟩ : ∃ f, fu = f + 1 := ⟨fu - 1, by omega⟩
    by_cases hs : s.1 = 0 ∧ sg t n s.2 = 44
    · have hlt := sg_lt (x := 44) hs.2 (by omega)
      have e : lsQ t n V (k + 1) c L s = lsQ t n V k (c + 1) (upd L c (numS t n (nI 0) (nI V) (0, s.2 + 1)).1) (skS t n (numS t n (nI 0) (nI V) (0, s.2 + 1)).2) := if_pos hs
      rw [e]
      have hT1 : mT (ic_up m 90 21 (nI (s.2 + 1))) t n := mT_F (up_M _ _) hT
      obtain ⟨m2, k1, k2, k3⟩ := m_numS (lo := nI 0) (hi := nI V) hT1 (mst_at h hs.1 (show s.2 + 1 ≤ n by omega))
      have k1 : fX9_number (ic_up m 90 21 (nI (s.2 + 1))) 0 (nI V) = some ((numS t n (nI 0) (nI V) (0, s.2 + 1)).1, m2) := k1
      generalize numS t n (nI 0) (nI V) (0, s.2 + 1) = q at k1 k2
      have g1 : mG w o B m m2 := mG_tr (mG_F (up_M _ _)) (mG_F k3)
      have g2 : mG w o B m (ic_up (ic_up m2 96 (o + c) q.1) 95 w (nI (c + 1))) := mG_tr g1 (mG_tr (mG_96 (by omega)) mG_95)
      have h2 : m2 95 w = nI c := by rw [k3.1 95 (by omega), ic_up_ne (by omega)]; exact h95
      have k4 : mst (ic_up (ic_up m2 96 (o + c) q.1) 95 w (nI (c + 1))) n q.2 := mst_fr (by rw [ic_up_ne (by omega), ic_up_ne (by omega)]) k2
      obtain ⟨m3, l1, l2, l3⟩ := m_skS (mT_G g2 hT) k4
      obtain ⟨m4, i1, i2, i3, i4, i5⟩ := ih (c + 1) f m3 (skS t n q.2) (upd L c q.1) (by omega) (by omega) (mT_F l3 (mT_G g2 hT)) l2 (by rw [l3.1 95 (by omega), ic_up_eq, pk_us]) (fun j hj => by
        rw [l3.1 96 (by omega), ic_up_ne (by omega), ic_up_eq]
        by_cases hjc : j = c
        · rw [hjc, pk_us, pk_us]
        · rw [pk_un (by omega), pk_un hjc, k3.1 96 (by omega), ic_up_ne (by omega)]; exact hL j (by omega))
      refine ⟨m4, ?_, i2, i3, i4, mG_tr g2 (mG_tr (mG_F l3) i5)⟩
      rw [lpX9_readsList_45, if_pos (by rw [h.2.2.1, hs.1]; rfl), m_look hT h.2.2.2 h.2.1, bd_some, if_pos hs.2, ag_n hw (by omega), h95, if_neg (fun e => by have := (nI_eq (by omega) (by omega)).mp e; omega), pu_e, h.2.2.2, nI_1, ag_n hw (by omega), ic_up_ne (by omega), h95, k1, bd_some, nI_add, as_n (by omega) (by omega), ag_n hw (by omega), ic_up_ne (by omega)]
      dsimp only
      rw [h2, nI_1, as_n hw (by omega), bd_some, l1, bd_some, i1]
    · exact stop (k + 1) c f m s L hs hT h h95 hL
theorem m_open0 {a : Nat} (h : mst m n (0, a)) (ha : a < n) : ∃ m1, fX9_opens m 0 = some (1, m1) ∧ mst m1 n (0, a + 1) ∧ mF m m1 := by
  refine ⟨ic_up m 90 21 (nI (a + 1)), ?_, mst_at h rfl (by omega), up_M _ _⟩
  have h1 : m 90 21 = nI a := h.2.2.2
  unfold fX9_opens
  rw [if_pos rfl, bd_some, if_pos rfl, bd_some, pu_e, bd_some, rz_1, h1, nI_1]
theorem m_open1 {a : Nat} (h : mst m n (0, a)) : ∃ m1, fX9_opens m 1 = some (0, m1) ∧ mst m1 n (3, a) ∧ mF m m1 := by
  obtain ⟨m1, k1, k2, k3⟩ := m_fails (f := 3) (n := n) (a := a) (by rw [h.2.2.1]; rfl) h.2.2.2 (by omega) h.2.1
  have k1 : fX9_fails m 3 = some m1 := k1
  refine ⟨m1, ?_, k2, k3⟩
  unfold fX9_opens
  rw [if_neg one_ne0, k1, bd_some, bd_some, if_neg one_ne0, bd_some, pu_e, bd_some, rz_0, Int32.add_zero, up_same]
theorem m_list {w o B a : Nat} (hw : w < 7) (ho : o + B ≤ 36) (hB2 : B ≤ 18) (hB1 : 1 ≤ B) (hT : mT m t n) (h : mst m n (0, a)) (ha : a < n) (h95 : m 95 w = 0) : ∃ m2, fX9_readsList m (nI w) (nI o) (nI B) (nI V) = some m2 ∧ mst m2 n (endS t n (lsR t n V B a).2.2) ∧ m2 95 w = nI (lsR t n V B a).1 ∧ (∀ j, j < (lsR t n V B a).1 → m2 96 (o + j) = (lsR t n V B a).2.1 j) ∧ mG w o B m m2 := by
  obtain ⟨m1, j1, j2, j3⟩ := m_open0 h ha
  obtain ⟨m2, k1, k2, k3⟩ := m_numS (lo := nI 0) (hi := nI V) (mT_F j3 hT) j2
  have k1 : fX9_number m1 0 (nI V) = some ((numS t n (nI 0) (nI V) (0, a + 1)).1, m2) := k1
  have hR : lsR t n V B a = lsQ t n V (B - 1) 1 (upd (fun _ => 0) 0 (numS t n (nI 0) (nI V) (0, a + 1)).1) (skS t n (numS t n (nI 0) (nI V) (0, a + 1)).2) := rfl
  rw [hR]
  generalize numS t n (nI 0) (nI V) (0, a + 1) = q at k1 k2
  have g2 : mG w o B m (ic_up (ic_up m2 96 (o + 0) q.1) 95 w (nI 1)) := mG_tr (mG_F (mF_tr j3 k3)) (mG_tr (mG_96 (by omega)) mG_95)
  have k4 : mst (ic_up (ic_up m2 96 (o + 0) q.1) 95 w (nI 1)) n q.2 := mst_fr (by rw [ic_up_ne (by omega), ic_up_ne (by omega)]) k2
  obtain ⟨m3, l1, l2, l3⟩ := m_skS (mT_G g2 hT) k4
  have hT3 := mT_F l3 (mT_G g2 hT)
  obtain ⟨m4, i1, i2, i3, i4, i5⟩ := m_lsA (V := V) hw ho hB2 (B - 1) 1 1000 m3 (skS t n q.2) (upd (fun _ => 0) 0 q.1) (by omega) (by omega) hT3 l2 (by rw [l3.1 95 (by omega), ic_up_eq, pk_us]) (fun j hj => by
    have : j = 0 := by omega
    subst this
    rw [l3.1 96 (by omega), ic_up_ne (by omega), ic_up_eq, pk_us, pk_us])
  obtain ⟨m5, e1, e2, e3⟩ := m_endS (mT_G i5 hT3) i2
  refine ⟨m5, ?_, e2, by rw [e3.1 95 (by omega)]; exact i3, fun j hj => by rw [e3.1 96 (by omega)]; exact i4 j hj, mG_tr g2 (mG_tr (mG_F l3) (mG_tr i5 (mG_F e3)))⟩
  have l1 : fX9_skips (ic_up (ic_up m2 96 o q.1) 95 w 1) = some m3 := l1
  unfold fX9_readsList
  rw [ag_n hw (by omega), h95, if_pos (by decide), bd_some, j1, bd_some, if_neg one_ne0, k1, bd_some, as_n (by omega) (by omega), as_n hw (by omega)]
  dsimp only
  rw [l1, bd_some, i1, bd_some, e1, bd_some, bd_some]
theorem m_listA {w o B a c : Nat} (hw : w < 7) (h : mst m n (0, a)) (hc : 1 ≤ c) (hc2 : c ≤ 18) (h95 : m 95 w = nI c) : ∃ m2, fX9_readsList m (nI w) (nI o) (nI B) (nI V) = some m2 ∧ mst m2 n (3, a) ∧ mF m m2 := by
  obtain ⟨m1, k1, k2, k3⟩ := m_open1 h
  refine ⟨m1, ?_, k2, k3⟩
  unfold fX9_readsList
  rw [ag_n hw (by omega), h95, if_neg (nI_nle (by omega) (by omega)), bd_some, k1, bd_some, if_pos rfl, bd_some]
end LIM
