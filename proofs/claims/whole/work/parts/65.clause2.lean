/-! ===== a person's clause; any clause; the text ===== -/
section CLB
variable {R : Nat} {m m' : ic_M} {t : Nat → Nat} {n W H S P a : Nat}
theorem cl_pers (hR : 78 ≤ R) (hT : cT m t n) (hT' : mT m' t n) (h : cst m n (0, a)) (h' : mst m' n (0, a)) (ha : a < n) (D : DR R m m' W H S P) (hW : ¬ W = 0) :
    ∃ m1 m1' s, fX4_readPerson m R = some m1 ∧ fX9_readsPerson m' = some m1' ∧ cst m1 n s ∧ mst m1' n s ∧ (s.1 = 0 → a < s.2 ∧ ∃ W H S P, DR R m1 m1' W H S P) ∧ cH R m m1 ∧ mH m' m1' := by
  obtain ⟨d1, d2, d3, d4, d5, d6, d7⟩ := D
  have h1 : m 2 1 = nI a := h.2.2.2.1 rfl
  have hP6 : P ≤ 6 := rOK_P d1
  have a3 : ∀ (μ : ic_M) (T : Int32 → Option ic_M), ic_ag μ 95 7 (3 : Int32) T = ic_ag μ 95 7 (nI 3) T := fun _ _ => rfl
  by_cases hP : P = 6
  · obtain ⟨m1, k1, k2, k3⟩ := c_blame (f := 3) (a := a) h rfl (by omega) (by omega) h.2.1
    have k1 : fX4_blame m 3 (nI a) = some m1 := k1
    obtain ⟨n1, l1, l2, l3⟩ := m_open1 h'
    refine ⟨m1, n1, (3, a), ?_, ?_, k2, l2, fun hz => absurd hz (by simp), cH_F k3, mH_F l3⟩
    · unfold fX4_readPerson
      rw [d2.2.2.2.2, hP, if_neg (show ¬ nI 6 < (6 : Int32) by decide), h1, k1, bd_some]
    · unfold fX9_readsPerson
      rw [a3, ag_n (by omega) (by omega), d3.2.2.2, hP, if_pos (show nI 6 = (6 : Int32) from rfl), bd_some, l1, bd_some, if_pos rfl, bd_some]
  · have hP5 : P < 6 := by omega
    have h12 : 2 * P < 12 := by omega
    have h13 : 2 * P + 1 < 12 := by omega
    have hT0 : cT (ic_up m 2 1 (nI (a + 1))) t n := cT_F (up_F _ _) hT
    obtain ⟨m1, b1, b2, b3⟩ := c_numS (lo := nI 0) (hi := nI 1) hT0 (cst_at h rfl (show a + 1 ≤ n by omega))
    have b1 : fX4_readNumber (ic_up m 2 1 (nI (a + 1))) 0 1 = _ := b1
    have hT1 := cT_F b3 hT0
    obtain ⟨m2, c1, c2, c3⟩ := c_numS (lo := nI 1) (hi := nI 200) hT1 b2
    have c1 : fX4_readNumber m1 1 200 = _ := c1
    have hT2 := cT_F c3 hT1
    obtain ⟨m4, f1, f2, f3⟩ := c_endS hT2 c2
    have F4 : cF m m4 := cF_tr (up_F _ _) (cF_tr b3 (cF_tr c3 f3))
    -- the reference
    obtain ⟨n0, g1, g2, g3⟩ := m_open0 h' ha
    have hU0 := mT_F g3 hT'
    obtain ⟨n1, i1, i2, i3⟩ := m_numS (lo := nI 0) (hi := nI 1) hU0 g2
    have i1 : fX9_number n0 0 1 = _ := i1
    have q1 := numS_ok (t := t) (n := n) (lo := 0) (hi := 1) (s := (0, a + 1)) (by omega) (by omega)
    have r1 := numS_rng (t := t) (n := n) (lo := nI 0) (hi := nI 1) (s := (0, a + 1)) (by dsimp only; omega) (by dsimp only; omega)
    generalize numS t n (nI 0) (nI 1) (0, a + 1) = w at b1 b2 c1 c2 f2 i1 i2 q1 r1
    have q2 := numS_ok (t := t) (n := n) (lo := 1) (hi := 200) (s := w.2) (by omega) (by omega)
    have r2 := numS_rng (t := t) (n := n) (lo := nI 1) (hi := nI 200) (s := w.2) r1.1 r1.2
    have hU1 : mT (ic_up n1 97 (2 * P) w.1) t n := mT_fr (by rw [ic_up_ne (by omega)]) (by rw [ic_up_ne (by omega)]) (mT_F i3 hU0)
    obtain ⟨n2, j1, j2, j3⟩ := m_numS (lo := nI 1) (hi := nI 200) hU1 (mst_fr (by rw [ic_up_ne (by omega)]) i2)
    have j1 : fX9_number (ic_up n1 97 (2 * P) w.1) 1 200 = _ := j1
    generalize numS t n (nI 1) (nI 200) w.2 = x at c1 c2 f2 j1 j2 q2 r2
    have hU2 : mT (ic_up n2 97 (2 * P + 1) x.1) t n := mT_fr (by rw [ic_up_ne (by omega)]) (by rw [ic_up_ne (by omega)]) (mT_F j3 hU1)
    obtain ⟨n3, l1, l2, l3⟩ := m_endS hU2 (mst_fr (by rw [ic_up_ne (by omega)]) j2)
    have p0 : n0 95 3 = nI P := by rw [g3.1 95 (by omega), d3.2.2.2]
    have p1 : ic_up n1 97 (2 * P) w.1 95 3 = nI P := by rw [ic_up_ne (by omega), i3.1 95 (by omega), p0]
    have p3 : n3 95 3 = nI P := by rw [l3.1 95 (by omega), ic_up_ne (by omega), j3.1 95 (by omega), p1]
    have ref : fX9_readsPerson m' = some (ic_up n3 95 3 (nI (P + 1))) := by
      unfold fX9_readsPerson
      rw [a3, ag_n (by omega) (by omega), d3.2.2.2, if_neg (show ¬ nI P = (6 : Int32) from fun e => hP ((nI_eq (b := 6) (by omega) (by omega)).mp e)), bd_some, g1, bd_some, if_neg one_ne0]
      dsimp only
      rw [a3, ag_n (by omega) (by omega), p0, i1, bd_some, show (2 : Int32) * nI P = nI (2 * P) from pk_mul 2 P, as_n h12 (by omega)]
      dsimp only
      rw [a3, ag_n (by omega) (by omega), p1, j1, bd_some, show (2 : Int32) * nI P = nI (2 * P) from pk_mul 2 P, nI_1, as_n h13 (by omega)]
      dsimp only
      rw [l1, bd_some, a3, ag_n (by omega) (by omega), p3, nI_1, show ∀ (μ : ic_M) (v : Int32) (T : ic_M → Option ic_M), ic_as μ 95 7 (3 : Int32) v T = ic_as μ 95 7 (nI 3) v T from fun _ _ _ => rfl, as_n (by omega) (by omega), bd_some]
    have G : ∀ b, b ≠ 90 → b ≠ 95 → b ≠ 97 → ic_up n3 95 3 (nI (P + 1)) b = m' b := fun b e1 e2 e3 => by rw [ic_up_ne e2, l3.1 b e1, ic_up_ne e3, j3.1 b e1, ic_up_ne e3, i3.1 b e1, g3.1 b e1]
    have G95 : ∀ k, ¬ k = 3 → ic_up n3 95 3 (nI (P + 1)) 95 k = m' 95 k := fun k e => by rw [ic_up_eq, pk_un e, l3.1 95 (by omega), ic_up_ne (by omega), j3.1 95 (by omega), ic_up_ne (by omega), i3.1 95 (by omega), g3.1 95 (by omega)]
    have G97 : ∀ k, ¬ k = 2 * P → ¬ k = 2 * P + 1 → ic_up n3 95 3 (nI (P + 1)) 97 k = m' 97 k := fun k e1 e2 => by rw [ic_up_ne (by omega), l3.1 97 (by omega), ic_up_eq, pk_un e2, j3.1 97 (by omega), ic_up_eq, pk_un e1, i3.1 97 (by omega), g3.1 97 (by omega)]
    have v0 : ic_up n3 95 3 (nI (P + 1)) 97 (2 * P) = w.1 := by rw [ic_up_ne (by omega), l3.1 97 (by omega), ic_up_eq, pk_un (by omega), j3.1 97 (by omega), ic_up_eq, pk_us]
    have v1 : ic_up n3 95 3 (nI (P + 1)) 97 (2 * P + 1) = x.1 := by rw [ic_up_ne (by omega), l3.1 97 (by omega), ic_up_eq, pk_us]
    have MH : mH m' (ic_up n3 95 3 (nI (P + 1))) := ⟨fun b e1 e2 _ e3 => G b e1 e2 e3, fun z e1 e2 => by rw [ic_up_ne (by omega), l3.2 z e1 e2, ic_up_ne (by omega), j3.2 z e1 e2, ic_up_ne (by omega), i3.2 z e1 e2, g3.2 z e1 e2]⟩
    have l4 : mst (ic_up n3 95 3 (nI (P + 1))) n (endS t n x.2) := mst_fr (by rw [ic_up_ne (by omega)]) l2
    have cls : ∀ M, (if m4 2 3 = 0 then Option.bind (fX5_addPerson m4 R w.1 x.1) (fun m27 => some m27) else some m4) = some M → fX4_readPerson m R = some M := fun M hM => by
      unfold fX4_readPerson
      rw [d2.2.2.2.2, if_pos (show nI P < (6 : Int32) from nI_lt (b := 6) hP5 (by omega)), pu_e, h1, nI_1, b1, bd_some, c1, bd_some, f1, bd_some]
      dsimp only
      rw [hM, bd_some]
    by_cases hz : (endS t n x.2).1 = 0
    · obtain ⟨z1, z2⟩ := endS_ok hz r2.1
      obtain ⟨x1, x2, vw, x3, x4, x5⟩ := q2 z1 r1.1
      obtain ⟨-, w2, vt, w3, w4, w5⟩ := q1 x1 (by dsimp only; omega)
      have w2 : a + 1 < w.2.2 := w2
      have hRP : m4 R 12 = nI P := by rw [F4.1 R (by omega), d2.2.2.2.2]
      refine ⟨ic_up (ic_up (ic_up m4 (R + 4) P w.1) (R + 5) P x.1) R 12 (nI (P + 1)), ic_up n3 95 3 (nI (P + 1)), endS t n x.2, cls _ ?_, ref, cst_fr (by rw [ic_up_ne (by omega), ic_up_ne (by omega), ic_up_ne (by omega)]) f2, l4, fun _ => ⟨by omega, W, H, S, P + 1, ?_⟩, ⟨fun b e1 e2 => ?_, ?_⟩, MH⟩
      · rw [if_pos (by rw [f2.2.2.1, hz]; rfl)]
        unfold fX5_addPerson
        rw [hRP, if_neg (nI_pos (by omega)), if_neg (show ¬ (6 : Int32) ≤ nI P from nI_ge (b := 6) (by omega) (by omega)), if_neg (show ¬ (6 : Int32) ≤ nI P from nI_ge (b := 6) (by omega) (by omega)), as_n (by omega) (by omega), ic_up_ne (by omega), hRP, as_n (by omega) (by omega), pu_e, ic_up_ne (by omega), ic_up_ne (by omega), hRP, nI_1, bd_some, bd_some]
      · have upR : ∀ k, ¬ k = 12 → ic_up (ic_up (ic_up m4 (R + 4) P w.1) (R + 5) P x.1) R 12 (nI (P + 1)) R k = m R k := fun k e => by
          rw [ic_up_eq, pk_un e, ic_up_ne (by omega), ic_up_ne (by omega), F4.1 R (by omega)]
        have upb : ∀ b, b ≠ R → b ≠ 2 → b ≠ R + 4 → b ≠ R + 5 → ic_up (ic_up (ic_up m4 (R + 4) P w.1) (R + 5) P x.1) R 12 (nI (P + 1)) b = m b := fun b e1 e2 e3 e4 => by
          rw [ic_up_ne e1, ic_up_ne e4, ic_up_ne e3, F4.1 b e2]
        refine ⟨?_, ⟨?_, ?_, ?_, ?_, ?_⟩, ⟨?_, ?_, ?_, ?_⟩, ?_, ?_, ?_, fun p hp => ?_⟩
        · rcases d1 with d | d
          · exact Or.inl ⟨d.1, d.2.1, d.2.2.1, d.2.2.2.1, d.2.2.2.2.1, d.2.2.2.2.2.1, by omega⟩
          · exact absurd d.1 hW
        · rw [upR 8 (by omega), d2.1]
        · rw [upR 9 (by omega), d2.2.1]
        · rw [upR 10 (by omega), d2.2.2.1]
        · rw [upR 11 (by omega), d2.2.2.2.1]
        · rw [ic_up_eq, pk_us]
        · rw [G95 0 (by omega), d3.1]
        · rw [G95 1 (by omega), d3.2.1]
        · rw [G95 2 (by omega), d3.2.2.1]
        · rw [ic_up_eq, pk_us]
        · exact LR_fr (upR 5 (by omega)) (upb _ (by omega) (by omega) (by omega) (by omega)) (G95 4 (by omega)) (fun j _ => by rw [G 96 (by omega) (by omega) (by omega)]) d4
        · exact LR_fr (upR 6 (by omega)) (upb _ (by omega) (by omega) (by omega) (by omega)) (G95 5 (by omega)) (fun j _ => by rw [G 96 (by omega) (by omega) (by omega)]) d5
        · exact LR_fr (upR 7 (by omega)) (upb _ (by omega) (by omega) (by omega) (by omega)) (G95 6 (by omega)) (fun j _ => by rw [G 96 (by omega) (by omega) (by omega)]) d6
        · by_cases hpP : p = P
          · subst hpP
            rw [v0, v1]
            refine ⟨?_, ?_, ?_, vw, x3, x4, x5⟩
            · rw [ic_up_ne (by omega), ic_up_ne (by omega), ic_up_eq, pk_us]
            · rw [ic_up_ne (by omega), ic_up_eq, pk_us]
            · have : vt = 0 ∨ vt = 1 := by omega
              rcases this with e | e
              · exact Or.inl (by rw [w5, e]; rfl)
              · exact Or.inr (by rw [w5, e]; rfl)
          · have old := d7 p (by omega)
            rw [G97 (2 * p) (by omega) (by omega), G97 (2 * p + 1) (by omega) (by omega)]
            refine ⟨?_, ?_, old.2.2⟩
            · rw [ic_up_ne (by omega), ic_up_ne (by omega), ic_up_eq, pk_un hpP, F4.1 (R + 4) (by omega), old.1]
            · rw [ic_up_ne (by omega), ic_up_eq, pk_un hpP, ic_up_ne (by omega), F4.1 (R + 5) (by omega), old.2.1]
      · rw [ic_up_ne (by omega), ic_up_ne (by omega), ic_up_ne (by omega), F4.1 b e1]
      · rw [ic_up_ne (by omega), ic_up_ne (by omega), ic_up_ne (by omega), F4.2]
    · have h3 : (endS t n x.2).1 ≤ 3 := f2.1
      refine ⟨m4, _, endS t n x.2, cls _ ?_, ref, f2, l4, fun h => absurd h hz, cH_F F4, MH⟩
      rw [if_neg (by rw [f2.2.2.1]; exact nI_ne0 (by omega) (by omega))]
theorem bd_id {α : Type} (X : Option α) : Option.bind X (fun v => some v) = X := by cases X <;> rfl
/-- the reference's clause at a letter x -/
def mCl (μ : ic_M) (x : Int32) : Option ic_M := if x = 114 then fX9_readsRiver μ else ic_ag μ 95 7 (0 : Int32) (fun v => if v = 0 then fX9_fails μ 1 else if x = 116 then fX9_readsList μ 4 0 18 40 else if x = 99 then fX9_readsList μ 5 18 6 9 else if x = 110 then fX9_readsList μ 6 24 12 20 else if x = 112 then fX9_readsPerson μ else fX9_fails μ 1)
theorem m_reads1 {fu : Nat} (hT : mT m t n) (h : mst m n (0, a)) (ha : a < n) : lpX9_reads_0 (fu + 1) m = Option.bind (mCl m (sg t n a)) (fun q => Option.bind (fX9_skips q) (fun m36 => lpX9_reads_0 fu m36)) := by
  have h0 : m 90 22 = 0 := h.2.2.1
  rw [lpX9_reads_0, if_pos h0]
  simp only [m_look hT h.2.2.2 h.2.1, bd_some, bd_id]
  rw [if_neg (fun e => by have := (sg_m1 (mt_ht hT)).mp e; omega)]
  rfl
/-- the class's clause behind the test of the first -/
def cCl (m : ic_M) (R : Nat) (x : Int32) : Option ic_M := if x = 99 then Option.bind (fX4_readList m (R + 2) (m R 6) 9) (fun q => ic_pu q.2 R 6 q.1 (fun m => some m)) else if x = 110 then Option.bind (fX4_readList m (R + 3) (m R 7) 20) (fun q => ic_pu q.2 R 7 q.1 (fun m => some m)) else if x = 112 then fX4_readPerson m R else if x = 114 then fX4_readSize m R else if x = 116 then Option.bind (fX4_readList m (R + 1) (m R 5) 40) (fun q => ic_pu q.2 R 5 q.1 (fun m => some m)) else fX4_blame m 1 (m 2 1)
theorem c_clause (hT : cT m t n) (h : cst m n (0, a)) : fX4_readClause m R = if m R 8 = 0 then (if sg t n a = 114 then cCl m R (sg t n a) else fX4_blame m 1 (m 2 1)) else cCl m R (sg t n a) := by
  unfold fX4_readClause
  rw [c_sign hT (h.2.2.2.1 rfl) h.2.1, bd_some]
  simp only [bd_id]
  rfl
theorem il_R (hR : R = 78 ∨ R = 84) : ic_il 106 (R + 1) = 18 ∧ ic_il 106 (R + 2) = 6 ∧ ic_il 106 (R + 3) = 12 := by
  rcases hR with h | h <;> rw [h] <;> decide +kernel
theorem clause (hR : R = 78 ∨ R = 84) (hT : cT m t n) (hT' : mT m' t n) (h : cst m n (0, a)) (h' : mst m' n (0, a)) (ha : a < n) (D : DR R m m' W H S P) :
    ∃ m1 m1' s, fX4_readClause m R = some m1 ∧ mCl m' (sg t n a) = some m1' ∧ cst m1 n s ∧ mst m1' n s ∧ (s.1 = 0 → a < s.2 ∧ ∃ W H S P, DR R m1 m1' W H S P) ∧ cH R m m1 ∧ mH m' m1' := by
  have hR8 : 78 ≤ R := by omega
  obtain ⟨il1, il2, il3⟩ := il_R hR
  obtain ⟨d1, d2, d3, d4, d5, d6, d7⟩ := id D
  have h1 : m 2 1 = nI a := h.2.2.2.1 rfl
  have hW6 : W ≤ 6 := by rcases d1 with h | h <;> omega
  -- what both say of a letter that cannot stand
  have bad : ∃ m1 m1', fX4_blame m 1 (m 2 1) = some m1 ∧ fX9_fails m' 1 = some m1' ∧ cst m1 n (1, a) ∧ mst m1' n (1, a) ∧ cF m m1 ∧ mF m' m1' := by
    obtain ⟨m1, k1, k2, k3⟩ := c_blame (f := 1) (a := a) h rfl (by omega) (by omega) h.2.1
    have k1 : fX4_blame m 1 (nI a) = some m1 := k1
    obtain ⟨n1, l1, l2, l3⟩ := m_fails (m := m') (f := 1) (n := n) (a := a) (by rw [h'.2.2.1]; rfl) h'.2.2.2 (by omega) h'.2.1
    exact ⟨m1, n1, by rw [h1]; exact k1, l1, k2, l2, k3, l3⟩
  have a0 : ∀ (T : Int32 → Option ic_M), ic_ag m' 95 7 (0 : Int32) T = T (nI W) := fun T => by
    rw [show ic_ag m' 95 7 (0 : Int32) T = ic_ag m' 95 7 (nI 0) T from rfl, ag_n (by omega) (by omega), d3.1]
  rw [c_clause hT h, d2.1]
  unfold mCl
  simp only [a0]
  generalize sg t n a = x
  by_cases x114 : x = 114
  · have e : (if nI W = 0 then (if x = 114 then cCl m R x else fX4_blame m 1 (m 2 1)) else cCl m R x) = fX4_readSize m R := by
      rw [if_pos x114, ite_self]
      unfold cCl
      rw [x114, if_neg (by decide), if_neg (by decide), if_neg (by decide), if_pos rfl]
    rw [e, if_pos x114]
    by_cases hW : W = 0
    · exact cl_size0 hR8 hT hT' h h' ha D hW
    · obtain ⟨m1, n1, k1, k2, k3, k4, k5, k6⟩ := cl_size1 h h' D hW
      exact ⟨m1, n1, (3, a), k1, k2, k3, k4, fun hz => absurd hz (by simp), cH_F k5, mH_F k6⟩
  · have e : (if nI W = 0 then (if x = 114 then cCl m R x else fX4_blame m 1 (m 2 1)) else cCl m R x) = if nI W = 0 then fX4_blame m 1 (m 2 1) else cCl m R x := by rw [if_neg x114]
    rw [e, if_neg x114]
    by_cases hW : W = 0
    · obtain ⟨m1, n1, k1, k2, k3, k4, k5, k6⟩ := bad
      rw [if_pos (by rw [hW]; rfl), if_pos (by rw [hW]; rfl)]
      exact ⟨m1, n1, (1, a), k1, k2, k3, k4, fun hz => absurd hz (by simp), cH_F k5, mH_F k6⟩
    · have hWn : ¬ nI W = 0 := nI_ne0 (by omega) (by omega)
      rw [if_neg hWn, if_neg hWn]
      unfold cCl
      by_cases x99 : x = 99
      · rw [if_pos x99, x99, if_neg (by decide), if_pos rfl]
        obtain ⟨m1, n1, s, k1, k2, k3, k4, k5, k6, k7, k8, k9⟩ := cl_list (r := R + 2) (sl := 6) (w := 5) (o := 18) (B := 6) (V := 9) (by omega) (by omega) (by omega) il2 (by omega) (by omega) (by omega) (by omega) (by omega) hT hT' h h' ha d5
        refine ⟨m1, n1, s, k1, k2, k3, k4, fun hz => ⟨(k5 hz).1, W, H, S, P, d1, ?_, ?_, ?_, (k5 hz).2, ?_, ?_⟩, ⟨fun b e1 e2 => k6 b e1 (by omega) (by omega), k8⟩, mH_G k9⟩
        · exact ⟨by rw [k7 8 (by omega), d2.1], by rw [k7 9 (by omega), d2.2.1], by rw [k7 10 (by omega), d2.2.2.1], by rw [k7 11 (by omega), d2.2.2.2.1], by rw [k7 12 (by omega), d2.2.2.2.2]⟩
        · rw [k9.2.2.1 0 (by omega), k9.2.2.1 1 (by omega), k9.2.2.1 2 (by omega), k9.2.2.1 3 (by omega)]; exact d3
        · exact LR_fr (k7 5 (by omega)) (k6 _ (by omega) (by omega) (by omega)) (k9.2.2.1 4 (by omega)) (fun j hj => k9.2.2.2 _ (by omega)) d4
        · exact LR_fr (k7 7 (by omega)) (k6 _ (by omega) (by omega) (by omega)) (k9.2.2.1 6 (by omega)) (fun j hj => k9.2.2.2 _ (by omega)) d6
        · rw [k9.1 97 (by omega) (by omega) (by omega), k6 (R + 4) (by omega) (by omega) (by omega), k6 (R + 5) (by omega) (by omega) (by omega)]; exact d7
      · rw [if_neg x99]
        by_cases x110 : x = 110
        · rw [if_pos x110, x110, if_neg (by decide), if_neg (by decide), if_pos rfl]
          obtain ⟨m1, n1, s, k1, k2, k3, k4, k5, k6, k7, k8, k9⟩ := cl_list (r := R + 3) (sl := 7) (w := 6) (o := 24) (B := 12) (V := 20) (by omega) (by omega) (by omega) il3 (by omega) (by omega) (by omega) (by omega) (by omega) hT hT' h h' ha d6
          refine ⟨m1, n1, s, k1, k2, k3, k4, fun hz => ⟨(k5 hz).1, W, H, S, P, d1, ?_, ?_, ?_, ?_, (k5 hz).2, ?_⟩, ⟨fun b e1 e2 => k6 b e1 (by omega) (by omega), k8⟩, mH_G k9⟩
          · exact ⟨by rw [k7 8 (by omega), d2.1], by rw [k7 9 (by omega), d2.2.1], by rw [k7 10 (by omega), d2.2.2.1], by rw [k7 11 (by omega), d2.2.2.2.1], by rw [k7 12 (by omega), d2.2.2.2.2]⟩
          · rw [k9.2.2.1 0 (by omega), k9.2.2.1 1 (by omega), k9.2.2.1 2 (by omega), k9.2.2.1 3 (by omega)]; exact d3
          · exact LR_fr (k7 5 (by omega)) (k6 _ (by omega) (by omega) (by omega)) (k9.2.2.1 4 (by omega)) (fun j hj => k9.2.2.2 _ (by omega)) d4
          · exact LR_fr (k7 6 (by omega)) (k6 _ (by omega) (by omega) (by omega)) (k9.2.2.1 5 (by omega)) (fun j hj => k9.2.2.2 _ (by omega)) d5
          · rw [k9.1 97 (by omega) (by omega) (by omega), k6 (R + 4) (by omega) (by omega) (by omega), k6 (R + 5) (by omega) (by omega) (by omega)]; exact d7
        · rw [if_neg x110]
          by_cases x112 : x = 112
          · rw [if_pos x112, x112, if_neg (by decide), if_neg (by decide), if_neg (by decide), if_pos rfl]
            exact cl_pers hR8 hT hT' h h' ha D hW
          · rw [if_neg x112, if_neg x114]
            by_cases x116 : x = 116
            · rw [if_pos x116, if_pos x116]
              obtain ⟨m1, n1, s, k1, k2, k3, k4, k5, k6, k7, k8, k9⟩ := cl_list (r := R + 1) (sl := 5) (w := 4) (o := 0) (B := 18) (V := 40) (by omega) (by omega) (by omega) il1 (by omega) (by omega) (by omega) (by omega) (by omega) hT hT' h h' ha d4
              refine ⟨m1, n1, s, k1, k2, k3, k4, fun hz => ⟨(k5 hz).1, W, H, S, P, d1, ?_, ?_, (k5 hz).2, ?_, ?_, ?_⟩, ⟨fun b e1 e2 => k6 b e1 (by omega) (by omega), k8⟩, mH_G k9⟩
              · exact ⟨by rw [k7 8 (by omega), d2.1], by rw [k7 9 (by omega), d2.2.1], by rw [k7 10 (by omega), d2.2.2.1], by rw [k7 11 (by omega), d2.2.2.2.1], by rw [k7 12 (by omega), d2.2.2.2.2]⟩
              · rw [k9.2.2.1 0 (by omega), k9.2.2.1 1 (by omega), k9.2.2.1 2 (by omega), k9.2.2.1 3 (by omega)]; exact d3
              · exact LR_fr (k7 6 (by omega)) (k6 _ (by omega) (by omega) (by omega)) (k9.2.2.1 5 (by omega)) (fun j hj => k9.2.2.2 _ (by omega)) d5
              · exact LR_fr (k7 7 (by omega)) (k6 _ (by omega) (by omega) (by omega)) (k9.2.2.1 6 (by omega)) (fun j hj => k9.2.2.2 _ (by omega)) d6
              · rw [k9.1 97 (by omega) (by omega) (by omega), k6 (R + 4) (by omega) (by omega) (by omega), k6 (R + 5) (by omega) (by omega) (by omega)]; exact d7
            · obtain ⟨m1, n1, k1, k2, k3, k4, k5, k6⟩ := bad
              rw [if_neg x116, if_neg x116, if_neg x99, if_neg x110, if_neg x112]
              exact ⟨m1, n1, (1, a), k1, k2, k3, k4, fun hz => absurd hz (by simp), cH_F k5, mH_F k6⟩
/-- how both are at the text's end -/
def fin2 (R : Nat) (m m' : ic_M) (n : Nat) : Prop := ∃ f a, f ≤ 3 ∧ m 2 3 = nI f ∧ m' 90 22 = nI f ∧ (¬ f = 0 → m 2 4 = nI a ∧ m' 90 21 = nI a) ∧ (f = 0 → ∃ W H S P, DR R m m' W H S P)
theorem prs (hR : R = 78 ∨ R = 84) : ∀ (j k fu fu' : Nat) (m m' : ic_M) (s : Nat × Nat), k + j = n → j < fu → j < fu' → cT m t n → mT m' t n → cst m n s → mst m' n (skS t n s) → (s.1 = 0 → k ≤ s.2 ∧ ∃ W H S P, DR R m m' W H S P) → ∃ m1 m1', lpX4_readInto_21 R fu (nI k) m = some (.inl m1) ∧ lpX9_reads_0 fu' m' = some m1' ∧ fin2 R m1 m1' n ∧ cH R m m1 ∧ mH m' m1' := by
  have hR8 : 78 ≤ R := by omega
  intro j
  induction j with
  | zero =>
    intro k fu fu' m m' s hk hf hf' hT hT' h h' hD
    have h240 := hT.1
    obtain ⟨f, rfl⟩ : ∃ f, fu = f + 1 := ⟨fu - 1, by omega⟩
    obtain ⟨f', rfl⟩ : ∃ f, fu' = f + 1 := ⟨fu' - 1, by omega⟩
    have h3 := h.1
    have hs2 := h.2.1
    refine ⟨m, m', ?_, ?_, ?_, cH_rfl m, mH_rfl m'⟩
    · rw [lpX4_readInto_21, hT.2.1, if_pos (nI_le (by omega) (by omega))]
    · rw [lpX9_reads_0]
      by_cases hz : s.1 = 0
      · have hle := (hD hz).1
        have e : skS t n s = (0, n) := by
          unfold skS
          rw [if_pos hz, sk_f (by omega)]
          congr 1; omega
        rw [e] at h'
        rw [if_pos (by rw [h'.2.2.1]; rfl), m_look hT' h'.2.2.2 h'.2.1, bd_some, if_pos ((sg_m1 (mt_ht hT')).mpr (Nat.le_refl _))]
      · rw [mst_skS_bad hz] at h'
        rw [if_neg (by rw [h'.2.2.1]; exact nI_ne0 (by omega) (by omega))]
    · by_cases hz : s.1 = 0
      · refine ⟨0, 0, by omega, by rw [h.2.2.1, hz], ?_, fun h => absurd rfl h, fun _ => (hD hz).2⟩
        have e : (skS t n s).1 = 0 := by unfold skS; rw [if_pos hz]
        rw [h'.2.2.1, e]
      · rw [mst_skS_bad hz] at h'
        exact ⟨s.1, s.2, h3, h.2.2.1, h'.2.2.1, fun _ => ⟨h.2.2.2.2.1 hz, h'.2.2.2⟩, fun e => absurd e hz⟩
  | succ j ih =>
    intro k fu fu' m m' s hk hf hf' hT hT' h h' hD
    have h240 := hT.1
    obtain ⟨f, rfl⟩ : ∃ f, fu = f + 1 := ⟨fu - 1, by omega⟩
    obtain ⟨f', rfl⟩ : ∃ f, fu' = f + 1 := ⟨fu' - 1, by omega⟩
    have h3 := h.1
    have hs2 := h.2.1
    by_cases hz : s.1 = 0
    · obtain ⟨hka, W, H, S, P, D⟩ := hD hz
      obtain ⟨m1, k1, k2, k3⟩ := c_skS hT h
      have hT1 := cT_F k3 hT
      have e : skS t n s = (0, sk t n s.2) := by unfold skS; rw [if_pos hz]
      rw [e] at k2 h'
      have hle := sk_le (t := t) hs2
      generalize sk t n s.2 = a at k2 h' hle
      have D1 := DR_F hR8 k3 (mF_rfl m') D
      have step : lpX4_readInto_21 R (f + 1) (nI k) m = if sg t n a = -1 then some (.inl m1) else Option.bind (fX4_readClause m1 R) (fun m27 => lpX4_readInto_21 R f (nI (k + 1)) m27) := by
        rw [lpX4_readInto_21, hT.2.1, if_neg (nI_ge (by omega) (by omega)), if_pos (by rw [h.2.2.1, hz]; rfl), k1, bd_some, c_sign hT1 (k2.2.2.2.1 rfl) hle.2, bd_some]
        simp only [lt_e, nI_1]
      by_cases han : a < n
      · have hne : ¬ sg t n a = -1 := fun e => by have := (sg_m1 (ct_ht hT)).mp e; omega
        obtain ⟨m2, m2', s', c1, c2, c3, c4, c5, c6, c7⟩ := clause hR hT1 hT' k2 h' han D1
        have hT2' := mT_H c7 hT'
        obtain ⟨m3', l1, l2, l3⟩ := m_skS hT2' c4
        obtain ⟨m4, m4', i1, i2, i3, i4, i5⟩ := ih (k + 1) f f' m2 m3' s' (by omega) (by omega) (by omega) (cT_H hR8 c6 hT1) (mT_F l3 hT2') c3 l2 (fun hz' => by
          obtain ⟨b1, W', H', S', P', b2⟩ := c5 hz'
          exact ⟨by omega, W', H', S', P', DR_F hR8 (cF_rfl m2) l3 b2⟩)
        refine ⟨m4, m4', ?_, ?_, i3, cH_tr (cH_F k3) (cH_tr c6 i4), mH_tr c7 (mH_tr (mH_F l3) i5)⟩
        · rw [step, if_neg hne, c1, bd_some, i1]
        · rw [m_reads1 hT' h' han, c2, bd_some, l1, bd_some, i2]
      · have hen : sg t n a = -1 := (sg_m1 (ct_ht hT)).mpr (by omega)
        refine ⟨m1, m', by rw [step, if_pos hen], ?_, ⟨0, 0, by omega, k2.2.2.1, h'.2.2.1, fun h => absurd rfl h, fun _ => ⟨W, H, S, P, D1⟩⟩, cH_F k3, mH_rfl m'⟩
        rw [lpX9_reads_0, if_pos (by rw [h'.2.2.1]; rfl), m_look hT' h'.2.2.2 h'.2.1, bd_some, if_pos hen]
    · rw [mst_skS_bad hz] at h'
      refine ⟨m, m', ?_, ?_, ⟨s.1, s.2, h3, h.2.2.1, h'.2.2.1, fun _ => ⟨h.2.2.2.2.1 hz, h'.2.2.2⟩, fun e => absurd e hz⟩, cH_rfl m, mH_rfl m'⟩
      · rw [lpX4_readInto_21, hT.2.1, if_neg (nI_ge (by omega) (by omega)), if_neg (by rw [h.2.2.1]; exact nI_ne0 (by omega) (by omega))]
      · rw [lpX9_reads_0, if_neg (by rw [h'.2.2.1]; exact nI_ne0 (by omega) (by omega))]
end CLB
