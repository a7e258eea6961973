/-! ===== a clause, on both sides ===== -/
/-- a list of the drafts -/
def LR (cn : Int32) (cl : Nat → Int32) (mn : Int32) (ml : Nat → Int32) (B V : Nat) : Prop := ∃ c, c ≤ B ∧ cn = nI c ∧ mn = nI c ∧ ∀ j, j < c → cl j = ml j ∧ ∃ v, v ≤ V ∧ ml j = nI v
/-- the class's draft in one memory, the reference's in another -/
def DR (R : Nat) (m m' : ic_M) (W H S P : Nat) : Prop := rOK W H S P ∧ cR m R W H S P ∧ (m' 95 0 = nI W ∧ m' 95 1 = nI H ∧ m' 95 2 = nI S ∧ m' 95 3 = nI P) ∧ LR (m R 5) (m (R + 1)) (m' 95 4) (fun j => m' 96 (0 + j)) 18 40 ∧ LR (m R 6) (m (R + 2)) (m' 95 5) (fun j => m' 96 (18 + j)) 6 9 ∧ LR (m R 7) (m (R + 3)) (m' 95 6) (fun j => m' 96 (24 + j)) 12 20 ∧ ∀ p, p < P → m (R + 4) p = m' 97 (2 * p) ∧ m (R + 5) p = m' 97 (2 * p + 1) ∧ (m' 97 (2 * p) = 0 ∨ m' 97 (2 * p) = 1) ∧ ∃ w, 1 ≤ w ∧ w ≤ 200 ∧ m' 97 (2 * p + 1) = nI w
def cH (R : Nat) (m m' : ic_M) : Prop := (∀ b, b ≠ 2 → ¬ (R ≤ b ∧ b ≤ R + 5) → m' b = m b) ∧ m' 2 2 = m 2 2
def mH (m m' : ic_M) : Prop := (∀ b, b ≠ 90 → b ≠ 95 → b ≠ 96 → b ≠ 97 → m' b = m b) ∧ ∀ x, x ≠ 21 → x ≠ 22 → m' 90 x = m 90 x
section CLA
variable {R : Nat} {m m' : ic_M} {t : Nat → Nat} {n W H S P a : Nat}
theorem cH_F {m m1 : ic_M} (f : cF m m1) : cH R m m1 := ⟨fun b h _ => f.1 b h, f.2⟩
theorem mH_F {m m1 : ic_M} (f : mF m m1) : mH m m1 := ⟨fun b h _ _ _ => f.1 b h, f.2⟩
theorem mH_G {w o B : Nat} {m m1 : ic_M} (f : mG w o B m m1) : mH m m1 := ⟨fun b h1 h2 h3 _ => f.1 b h1 h2 h3, f.2.1⟩
theorem cH_tr {a b c : ic_M} (h : cH R a b) (g : cH R b c) : cH R a c := ⟨fun x h1 h2 => by rw [g.1 x h1 h2, h.1 x h1 h2], by rw [g.2, h.2]⟩
theorem mH_tr {a b c : ic_M} (h : mH a b) (g : mH b c) : mH a c := ⟨fun x h1 h2 h3 h4 => by rw [g.1 x h1 h2 h3 h4, h.1 x h1 h2 h3 h4], fun x h1 h2 => by rw [g.2 x h1 h2, h.2 x h1 h2]⟩
theorem cH_rfl (m : ic_M) : cH R m m := ⟨fun _ _ _ => rfl, rfl⟩
theorem mH_rfl (m : ic_M) : mH m m := ⟨fun _ _ _ _ _ => rfl, fun _ _ _ => rfl⟩
theorem cT_H {m m1 : ic_M} (hR : 78 ≤ R) (f : cH R m m1) (h : cT m t n) : cT m1 t n := cT_fr f.2 (f.1 3 (by omega) (by omega)) h
theorem mT_H {m m1 : ic_M} (f : mH m m1) (h : mT m t n) : mT m1 t n := mT_fr (f.2 1 (by omega) (by omega)) (f.1 91 (by omega) (by omega) (by omega) (by omega)) h
theorem LR_fr {cn cn' mn mn' : Int32} {cl cl' ml ml' : Nat → Int32} {B V : Nat} (h1 : cn' = cn) (h2 : cl' = cl) (h3 : mn' = mn) (h4 : ∀ j, j < B → ml' j = ml j) (h : LR cn cl mn ml B V) : LR cn' cl' mn' ml' B V := by
  obtain ⟨c, a1, a2, a3, a4⟩ := h
  refine ⟨c, a1, h1.trans a2, h3.trans a3, fun j hj => ?_⟩
  rw [h2, h4 j (by omega)]; exact a4 j hj
/-- a draft that only the reader has passed by -/
theorem DR_F {m1 m1' : ic_M} (hR : 78 ≤ R) (f : cF m m1) (f' : mF m' m1') (D : DR R m m' W H S P) : DR R m1 m1' W H S P := by
  obtain ⟨d1, d2, d3, d4, d5, d6, d7⟩ := D
  have e0 := f.1 R (by omega)
  have e1 := f'.1 95 (by omega)
  have e2 := f'.1 96 (by omega)
  have e3 := f'.1 97 (by omega)
  refine ⟨d1, ?_, ?_, ?_, ?_, ?_, ?_⟩
  · unfold cR at d2 ⊢; rw [e0]; exact d2
  · rw [e1]; exact d3
  · rw [e0, e1, e2, f.1 (R + 1) (by omega)]; exact d4
  · rw [e0, e1, e2, f.1 (R + 2) (by omega)]; exact d5
  · rw [e0, e1, e2, f.1 (R + 3) (by omega)]; exact d6
  · rw [e3, f.1 (R + 4) (by omega), f.1 (R + 5) (by omega)]; exact d7
theorem cl_list {r sl w o B V : Nat} (hr : 3 < r) (hR : 3 < R) (hrR : r ≠ R) (hB : ic_il 106 r = B) (hB2 : B ≤ 18) (hB1 : 1 ≤ B) (hw : w < 7) (ho : o + B ≤ 36) (hV : V < 2 ^ 31) (hT : cT m t n) (hT' : mT m' t n) (h : cst m n (0, a)) (h' : mst m' n (0, a)) (ha : a < n) (D : LR (m R sl) (m r) (m' 95 w) (fun j => m' 96 (o + j)) B V) :
    ∃ m1 m1' s, Option.bind (fX4_readList m r (m R sl) (nI V)) (fun q => ic_pu q.2 R sl q.1 (fun m => some m)) = some m1 ∧ fX9_readsList m' (nI w) (nI o) (nI B) (nI V) = some m1' ∧ cst m1 n s ∧ mst m1' n s ∧ (s.1 = 0 → a < s.2 ∧ LR (m1 R sl) (m1 r) (m1' 95 w) (fun j => m1' 96 (o + j)) B V) ∧ (∀ b, b ≠ 2 → b ≠ r → b ≠ R → m1 b = m b) ∧ (∀ x, x ≠ sl → m1 R x = m R x) ∧ m1 2 2 = m 2 2 ∧ mG w o B m' m1' := by
  have hR2 : R ≠ 2 := by omega
  have h2R : 2 ≠ R := by omega
  have hRr : R ≠ r := by omega
  obtain ⟨c, a1, a2, a3, a4⟩ := D
  by_cases hc : c = 0
  · subst hc
    obtain ⟨m2, k1, k2, k3, k4, k5⟩ := c_list (V := V) hr hB hB2 hB1 hT h ha
    obtain ⟨m2', l1, l2, l3, l4, l5⟩ := m_list (V := V) hw ho hB2 hB1 hT' h' ha (by rw [a3]; rfl)
    have ok := lsQ_ok (t := t) (n := n) hV (B - 1) 1 (upd (fun _ => 0) 0 (numS t n (nI 0) (nI V) (0, a + 1)).1) (skS t n (numS t n (nI 0) (nI V) (0, a + 1)).2)
    have r1 := numS_rng (t := t) (n := n) (lo := nI 0) (hi := nI V) (s := (0, a + 1)) (by dsimp only; omega) (by dsimp only; omega)
    have r2 := skS_rng (t := t) r1.1 r1.2
    have hok := numS_ok (t := t) (n := n) (lo := 0) (hi := V) (s := (0, a + 1)) (Nat.zero_le _) hV
    obtain ⟨o1, o2, o3, o4⟩ := ok r2.1 r2.2.1
    have hRe : lsR t n V B a = lsQ t n V (B - 1) 1 (upd (fun _ => 0) 0 (numS t n (nI 0) (nI V) (0, a + 1)).1) (skS t n (numS t n (nI 0) (nI V) (0, a + 1)).2) := rfl
    rw [← hRe] at o1 o2 o3 o4
    refine ⟨ic_up m2 R sl (nI (lsR t n V B a).1), m2', endS t n (lsR t n V B a).2.2, ?_, l1, cst_fr (by rw [ic_up_ne h2R]) k2, l2, fun hz => ?_, fun b h1 h2 h3 => by rw [ic_up_ne h3, k4 b h1 h2], fun x hx => by rw [ic_up_eq, pk_un hx, k4 R hR2 hRr], by rw [ic_up_ne h2R, k5], l5⟩
    · rw [show m R sl = 0 from a2, k1, bd_some, pu_e]
    · obtain ⟨z1, z2⟩ := endS_ok hz o3
      obtain ⟨y1, y2, y3⟩ := o4 z1
      have y4 : (numS t n (nI 0) (nI V) (0, a + 1)).2.1 = 0 := by omega
      obtain ⟨-, x2, v, -, x4, x5⟩ := hok y4 (by dsimp only; omega)
      have x2 : a + 1 < (numS t n (nI 0) (nI V) (0, a + 1)).2.2 := x2
      refine ⟨by omega, (lsR t n V B a).1, by omega, by rw [ic_up_eq, pk_us], l3, fun j hj => ?_⟩
      have := y3 (fun j hj => by
        have : j = 0 := by omega
        subst this
        rw [pk_us]; exact ⟨v, x4, x5⟩) j hj
      rw [ic_up_ne hrR, k3 j hj]
      dsimp only
      rw [l4 j hj]
      exact ⟨rfl, this⟩
  · obtain ⟨m2, k1, k2, k3⟩ := c_listA (r := r) (x := nI V) h (show 1 ≤ c by omega) (by omega)
    obtain ⟨m2', l1, l2, l3⟩ := m_listA (V := V) (o := o) (B := B) hw h' (show 1 ≤ c by omega) (by omega) a3
    refine ⟨ic_up m2 R sl (nI c), m2', (3, a), ?_, l1, cst_fr (by rw [ic_up_ne h2R]) k2, l2, fun hz => absurd hz (by simp), fun b h1 h2 h3 => by rw [ic_up_ne h3, k3.1 b h1], fun x hx => by rw [ic_up_eq, pk_un hx, k3.1 R hR2], by rw [ic_up_ne h2R, k3.2], mG_F l3⟩
    rw [a2, k1, bd_some, pu_e]
theorem cl_size0 (hR : 78 ≤ R) (hT : cT m t n) (hT' : mT m' t n) (h : cst m n (0, a)) (h' : mst m' n (0, a)) (ha : a < n) (D : DR R m m' W H S P) (hW : W = 0) :
    ∃ m1 m1' s, fX4_readSize m R = some m1 ∧ fX9_readsRiver m' = some m1' ∧ cst m1 n s ∧ mst m1' n s ∧ (s.1 = 0 → a < s.2 ∧ ∃ W H S P, DR R m1 m1' W H S P) ∧ cH R m m1 ∧ mH m' m1' := by
  obtain ⟨d1, d2, d3, d4, d5, d6, d7⟩ := D
  subst hW
  have hP : P = 0 := by rcases d1 with h | h <;> omega
  subst hP
  have h1 : m 2 1 = nI a := h.2.2.2.1 rfl
  have hT0 : cT (ic_up m 2 1 (nI (a + 1))) t n := cT_F (up_F _ _) hT
  obtain ⟨m1, b1, b2, b3⟩ := c_numS (lo := nI 2) (hi := nI 6) hT0 (cst_at h rfl (show a + 1 ≤ n by omega))
  have b1 : fX4_readNumber (ic_up m 2 1 (nI (a + 1))) 2 6 = _ := b1
  have hT1 := cT_F b3 hT0
  obtain ⟨m2, c1, c2, c3⟩ := c_numS (lo := nI 1) (hi := nI 3) hT1 b2
  have c1 : fX4_readNumber m1 1 3 = _ := c1
  have hT2 := cT_F c3 hT1
  obtain ⟨m3, e1, e2, e3⟩ := c_numS (lo := nI 1) (hi := nI 30) hT2 c2
  have e1 : fX4_readNumber m2 1 30 = _ := e1
  have hT3 := cT_F e3 hT2
  obtain ⟨m4, f1, f2, f3⟩ := c_endS hT3 e2
  have F4 : cF m m4 := cF_tr (up_F _ _) (cF_tr b3 (cF_tr c3 (cF_tr e3 f3)))
  -- the reference
  obtain ⟨n0, g1, g2, g3⟩ := m_open0 h' ha
  have hU0 := mT_F g3 hT'
  obtain ⟨n1, i1, i2, i3⟩ := m_numS (lo := nI 2) (hi := nI 6) hU0 g2
  have i1 : fX9_number n0 2 6 = _ := i1
  have q1 := numS_ok (t := t) (n := n) (lo := 2) (hi := 6) (s := (0, a + 1)) (by omega) (by omega)
  have r1 := numS_rng (t := t) (n := n) (lo := nI 2) (hi := nI 6) (s := (0, a + 1)) (by dsimp only; omega) (by dsimp only; omega)
  generalize numS t n (nI 2) (nI 6) (0, a + 1) = w at b1 b2 c1 c2 e1 e2 f2 i1 i2 q1 r1
  have q2 := numS_ok (t := t) (n := n) (lo := 1) (hi := 3) (s := w.2) (by omega) (by omega)
  have r2 := numS_rng (t := t) (n := n) (lo := nI 1) (hi := nI 3) (s := w.2) r1.1 r1.2
  have hU1 : mT (ic_up n1 95 0 w.1) t n := mT_fr (by rw [ic_up_ne (by omega)]) (by rw [ic_up_ne (by omega)]) (mT_F i3 hU0)
  obtain ⟨n2, j1, j2, j3⟩ := m_numS (lo := nI 1) (hi := nI 3) hU1 (mst_fr (by rw [ic_up_ne (by omega)]) i2)
  have j1 : fX9_number (ic_up n1 95 0 w.1) 1 3 = _ := j1
  generalize numS t n (nI 1) (nI 3) w.2 = x at c1 c2 e1 e2 f2 j1 j2 q2 r2
  have q3 := numS_ok (t := t) (n := n) (lo := 1) (hi := 30) (s := x.2) (by omega) (by omega)
  have r3 := numS_rng (t := t) (n := n) (lo := nI 1) (hi := nI 30) (s := x.2) r2.1 r2.2
  have hU2 : mT (ic_up n2 95 1 x.1) t n := mT_fr (by rw [ic_up_ne (by omega)]) (by rw [ic_up_ne (by omega)]) (mT_F j3 hU1)
  obtain ⟨n3, k1, k2, k3⟩ := m_numS (lo := nI 1) (hi := nI 30) hU2 (mst_fr (by rw [ic_up_ne (by omega)]) j2)
  have k1 : fX9_number (ic_up n2 95 1 x.1) 1 30 = _ := k1
  generalize numS t n (nI 1) (nI 30) x.2 = y at e1 e2 f2 k1 k2 q3 r3
  have hU3 : mT (ic_up n3 95 2 y.1) t n := mT_fr (by rw [ic_up_ne (by omega)]) (by rw [ic_up_ne (by omega)]) (mT_F k3 hU2)
  obtain ⟨n4, l1, l2, l3⟩ := m_endS hU3 (mst_fr (by rw [ic_up_ne (by omega)]) k2)
  have G : ∀ b, b ≠ 90 → b ≠ 95 → n4 b = m' b := fun b p1 p2 => by rw [l3.1 b p1, ic_up_ne p2, k3.1 b p1, ic_up_ne p2, j3.1 b p1, ic_up_ne p2, i3.1 b p1, g3.1 b p1]
  have G95 : ∀ x, ¬ x = 0 → ¬ x = 1 → ¬ x = 2 → n4 95 x = m' 95 x := fun x p1 p2 p3 => by rw [l3.1 95 (by omega), ic_up_eq, pk_un p3, k3.1 95 (by omega), ic_up_eq, pk_un p2, j3.1 95 (by omega), ic_up_eq, pk_un p1, i3.1 95 (by omega), g3.1 95 (by omega)]
  have v0 : n4 95 0 = w.1 := by rw [l3.1 95 (by omega), ic_up_eq, pk_un (by omega), k3.1 95 (by omega), ic_up_eq, pk_un (by omega), j3.1 95 (by omega), ic_up_eq, pk_us]
  have v1 : n4 95 1 = x.1 := by rw [l3.1 95 (by omega), ic_up_eq, pk_un (by omega), k3.1 95 (by omega), ic_up_eq, pk_us]
  have v2 : n4 95 2 = y.1 := by rw [l3.1 95 (by omega), ic_up_eq, pk_us]
  have MH : mH m' n4 := ⟨fun b p1 p2 _ _ => G b p1 p2, fun z p1 p2 => by rw [l3.2 z p1 p2, ic_up_ne (by omega), k3.2 z p1 p2, ic_up_ne (by omega), j3.2 z p1 p2, ic_up_ne (by omega), i3.2 z p1 p2, g3.2 z p1 p2]⟩
  have ref : fX9_readsRiver m' = some n4 := by
    unfold fX9_readsRiver
    rw [show ∀ T : Int32 → Option ic_M, ic_ag m' 95 7 (0 : Int32) T = ic_ag m' 95 7 (nI 0) T from fun _ => rfl, ag_n (by omega) (by omega), d3.1, if_pos (show nI 0 ≤ 0 by decide), bd_some, g1, bd_some, if_neg one_ne0, i1, bd_some, show ∀ (μ : ic_M) (v : Int32) (T : ic_M → Option ic_M), ic_as μ 95 7 (0 : Int32) v T = ic_as μ 95 7 (nI 0) v T from fun _ _ _ => rfl, as_n (by omega) (by omega), j1, bd_some, show ∀ (μ : ic_M) (v : Int32) (T : ic_M → Option ic_M), ic_as μ 95 7 (1 : Int32) v T = ic_as μ 95 7 (nI 1) v T from fun _ _ _ => rfl, as_n (by omega) (by omega), k1, bd_some, show ∀ (μ : ic_M) (v : Int32) (T : ic_M → Option ic_M), ic_as μ 95 7 (2 : Int32) v T = ic_as μ 95 7 (nI 2) v T from fun _ _ _ => rfl, as_n (by omega) (by omega), l1, bd_some, bd_some]
  have cls : ∀ M, (if m4 2 3 = 0 then Option.bind (fX5_measure m4 R w.1 x.1 y.1) (fun m27 => some m27) else some m4) = some M → fX4_readSize m R = some M := fun M hM => by
    unfold fX4_readSize
    rw [if_pos (by rw [d2.1]; rfl), pu_e, h1, nI_1, b1, bd_some, c1, bd_some, e1, bd_some, f1, bd_some]
    dsimp only
    rw [hM, bd_some]
  by_cases hz : (endS t n y.2).1 = 0
  · obtain ⟨z1, z2⟩ := endS_ok hz r3.1
    obtain ⟨y1, y2, vs, y3, y4, y5⟩ := q3 z1 r2.1
    obtain ⟨x1, x2, vh, x3, x4, x5⟩ := q2 y1 r1.1
    obtain ⟨-, w2, vw, w3, w4, w5⟩ := q1 x1 (by dsimp only; omega)
    have w2 : a + 1 < w.2.2 := w2
    refine ⟨ic_up (ic_up (ic_up (ic_up m4 R 8 w.1) R 9 x.1) R 10 y.1) R 11 (w.1 * x.1), n4, endS t n y.2, cls _ ?_, ref, cst_fr (by rw [ic_up_ne (by omega), ic_up_ne (by omega), ic_up_ne (by omega), ic_up_ne (by omega)]) f2, l2, fun _ => ⟨by omega, vw, vh, vs, 0, ?_⟩, ⟨fun b p1 p2 => ?_, ?_⟩, MH⟩
    · rw [if_pos (by rw [f2.2.2.1, hz]; rfl)]
      unfold fX5_measure
      rw [pu_e, pu_e, pu_e, pu_e, bd_some]
    · have up4 : ∀ k, ¬ k = 8 → ¬ k = 9 → ¬ k = 10 → ¬ k = 11 → ic_up (ic_up (ic_up (ic_up m4 R 8 w.1) R 9 x.1) R 10 y.1) R 11 (w.1 * x.1) R k = m R k := fun k p1 p2 p3 p4 => by
        rw [ic_up_eq, pk_un p4, ic_up_eq, pk_un p3, ic_up_eq, pk_un p2, ic_up_eq, pk_un p1, F4.1 R (by omega)]
      have upb : ∀ b, b ≠ R → b ≠ 2 → ic_up (ic_up (ic_up (ic_up m4 R 8 w.1) R 9 x.1) R 10 y.1) R 11 (w.1 * x.1) b = m b := fun b p1 p2 => by
        rw [ic_up_ne p1, ic_up_ne p1, ic_up_ne p1, ic_up_ne p1, F4.1 b p2]
      refine ⟨Or.inl ⟨w3, w4, x3, x4, y3, y4, by omega⟩, ⟨?_, ?_, ?_, ?_, ?_⟩, ⟨by rw [v0, w5], by rw [v1, x5], by rw [v2, y5], by rw [G95 3 (by omega) (by omega) (by omega), d3.2.2.2]⟩, ?_, ?_, ?_, fun p hp => absurd hp (by omega)⟩
      · rw [ic_up_eq, pk_un (by omega), ic_up_eq, pk_un (by omega), ic_up_eq, pk_un (by omega), ic_up_eq, pk_us, w5]
      · rw [ic_up_eq, pk_un (by omega), ic_up_eq, pk_un (by omega), ic_up_eq, pk_us, x5]
      · rw [ic_up_eq, pk_un (by omega), ic_up_eq, pk_us, y5]
      · rw [ic_up_eq, pk_us, w5, x5, pk_mul]
      · rw [up4 12 (by omega) (by omega) (by omega) (by omega), d2.2.2.2.2]
      · exact LR_fr (up4 5 (by omega) (by omega) (by omega) (by omega)) (upb _ (by omega) (by omega)) (G95 4 (by omega) (by omega) (by omega)) (fun j _ => by rw [G 96 (by omega) (by omega)]) d4
      · exact LR_fr (up4 6 (by omega) (by omega) (by omega) (by omega)) (upb _ (by omega) (by omega)) (G95 5 (by omega) (by omega) (by omega)) (fun j _ => by rw [G 96 (by omega) (by omega)]) d5
      · exact LR_fr (up4 7 (by omega) (by omega) (by omega) (by omega)) (upb _ (by omega) (by omega)) (G95 6 (by omega) (by omega) (by omega)) (fun j _ => by rw [G 96 (by omega) (by omega)]) d6
    · rw [ic_up_ne (by omega), ic_up_ne (by omega), ic_up_ne (by omega), ic_up_ne (by omega), F4.1 b p1]
    · rw [ic_up_ne (by omega), ic_up_ne (by omega), ic_up_ne (by omega), ic_up_ne (by omega), F4.2]
  · have h3 : (endS t n y.2).1 ≤ 3 := f2.1
    refine ⟨m4, n4, endS t n y.2, cls _ ?_, ref, f2, l2, fun h => absurd h hz, cH_F F4, MH⟩
    rw [if_neg (by rw [f2.2.2.1]; exact nI_ne0 (by omega) (by omega))]
theorem cl_size1 (h : cst m n (0, a)) (h' : mst m' n (0, a)) (D : DR R m m' W H S P) (hW : ¬ W = 0) : ∃ m1 m1', fX4_readSize m R = some m1 ∧ fX9_readsRiver m' = some m1' ∧ cst m1 n (3, a) ∧ mst m1' n (3, a) ∧ cF m m1 ∧ mF m' m1' := by
  obtain ⟨d1, d2, d3, d4, d5, d6, d7⟩ := D
  have hW6 : 0 < W ∧ W ≤ 6 := by rcases d1 with h | h <;> omega
  obtain ⟨m1, k1, k2, k3⟩ := c_blame (f := 3) (a := a) h rfl (by omega) (by omega) h.2.1
  have k1 : fX4_blame m 3 (nI a) = some m1 := k1
  have h1 : m 2 1 = nI a := h.2.2.2.1 rfl
  obtain ⟨n1, l1, l2, l3⟩ := m_open1 h'
  refine ⟨m1, n1, ?_, ?_, k2, l2, k3, l3⟩
  · unfold fX4_readSize
    rw [if_neg (by rw [d2.1]; exact nI_ne0 (by omega) (by omega)), h1, k1, bd_some]
  · unfold fX9_readsRiver
    rw [show ∀ T : Int32 → Option ic_M, ic_ag m' 95 7 (0 : Int32) T = ic_ag m' 95 7 (nI 0) T from fun _ => rfl, ag_n (by omega) (by omega), d3.1, if_neg (nI_nle (by omega) (by omega)), bd_some, l1, bd_some, if_pos rfl, bd_some]
end CLA
