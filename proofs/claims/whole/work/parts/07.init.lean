/-! ===== making: the cells come in the order of the layout ===== -/
abbrev ic_S : Type := Nat × ic_R × ic_M
def ic_zr (ρ : ic_R) (r : Nat) : ic_R := fun b k => if b = r then 0 else ρ b k
def ic_zm (μ : ic_M) (r : Nat) : ic_M := fun b k => if b = r then 0 else μ b k
/-- the next cell is made -/
def ic_nw {α : Type} (w : ic_S) (t v : Nat) (T : ic_S → Option α) : Option α := if ic_sh w.1 = (t, v) then T (w.1 + 1, ic_zr w.2.1 (w.1 + 1), ic_zm w.2.2 (w.1 + 1)) else none
def ic_b (n r : Nat) (q : Nat × Nat) : Bool := match r with
  | 0 => false
  | a + 1 => decide (a < n) && decide (ic_sh a = q)
theorem ic_b_of {n r : Nat} {q : Nat × Nat} (h : ic_b n r q = true) : ∃ a, r = a + 1 ∧ a < n ∧ ic_sh a = q := by
  cases r with
  | zero => cases h
  | succ a =>
    simp only [ic_b, Bool.and_eq_true, decide_eq_true_eq] at h
    exact ⟨a, rfl, h.1, h.2⟩
/-- a cell is looked at -/
def ic_lk {α : Type} (w : ic_S) (r : Nat) (q : Nat × Nat) (T : Option α) : Option α := if ic_b w.1 r q = true then T else none
theorem ic_lk_of {α : Type} {w : ic_S} {r : Nat} {q : Nat × Nat} {T : Option α} {R : α} (h : ic_lk w r q T = some R) : (∃ a, r = a + 1 ∧ a < w.1 ∧ ic_sh a = q) ∧ T = some R := by
  by_cases hc : ic_b w.1 r q = true
  · rw [ic_lk, if_pos hc] at h; exact ⟨ic_b_of hc, h⟩
  · rw [ic_lk, if_neg hc] at h; cases h
def ic_jr {α : Type} (w : ic_S) (r k q : Nat) (T : ic_S → Option α) : Option α := T (w.1, ic_ur w.2.1 r k q, w.2.2)
def ic_ji {α : Type} (w : ic_S) (r k : Nat) (x : Int32) (T : ic_S → Option α) : Option α := T (w.1, w.2.1, ic_up w.2.2 r k x)
theorem ic_en_new {κ : ic_K} {ρ : ic_R} {μ : ic_M} {n a : Nat} (h : a < n) : ic_en κ (ic_zr ρ (n + 1)) (ic_zm μ (n + 1)) a = ic_en κ ρ μ a := by
  have e1 : ic_zr ρ (n + 1) (a + 1) = ρ (a + 1) := by funext k; simp only [ic_zr]; rw [if_neg (by omega)]
  have e2 : ic_zm μ (n + 1) (a + 1) = μ (a + 1) := by funext k; simp only [ic_zm]; rw [if_neg (by omega)]
  have e3 : ∀ ci, ic_fv κ (ic_zr ρ (n + 1)) (ic_zm μ (n + 1)) a ci = ic_fv κ ρ μ a ci := fun ci => by
    funext j
    simp only [ic_fv, e1, e2]
  simp only [ic_en, e1, e2, e3]
theorem ic_H_new {κ : ic_K} {ρ : ic_R} {μ : ic_M} {n : Nat} {H H1 : Heap} (hP : ic_H κ n ρ μ H) (z : H1.size = κ.1 + n + 1) (o : ∀ q, q < κ.1 + n → H1[q]? = H[q]?) (hnew : va_at κ.2.1 ic_cls (κ.1 + n, ic_en κ (ic_zr ρ (n + 1)) (ic_zm μ (n + 1)) n) H1) : ic_H κ (n + 1) (ic_zr ρ (n + 1)) (ic_zm μ (n + 1)) H1 := by
  refine ⟨fun k q hk => ?_, by rw [z]; omega⟩
  have hkn : k < n + 1 := by
    have := (List.getElem?_eq_some_iff.mp hk).1
    simpa [ic_wd] using this
  rw [ic_wd_at hkn] at hk
  cases hk
  by_cases h : k < n
  · rw [ic_en_new h]
    exact (hP.1 k _ (ic_wd_at h)).kept (o (κ.1 + k) (by omega))
  · have : k = n := by omega
    subst this
    exact hnew
theorem ic_wd_new {κ : ic_K} {ρ : ic_R} {μ : ic_M} {n : Nat} : ic_wd κ (n + 1) (ic_zr ρ (n + 1)) (ic_zm μ (n + 1)) = ic_wd κ n ρ μ ++ [(κ.1 + n, ic_en κ (ic_zr ρ (n + 1)) (ic_zm μ (n + 1)) n)] := by
  unfold ic_wd
  rw [List.range_succ, List.map_append]
  congr 1
  exact List.map_congr_left fun a ha => by rw [ic_en_new (List.mem_range.mp ha)]
/-- a cell that stands behind the layout's n, apart from them, in a heap of one cell more, is the next one -/
theorem ic_next {κ : ic_K} {ρ : ic_R} {μ : ic_M} {n q : Nat} {E : va_E} {H1 : Heap} (hP1 : va_P κ.2.1 ic_cls (ic_wd κ n ρ μ ++ [(q, E)]) H1) (hD1 : va_D (ic_A κ) (ic_wd κ n ρ μ ++ [(q, E)])) (up : H1.size ≤ κ.1 + n + 1) : q = κ.1 + n ∧ H1.size = κ.1 + n + 1 := by
  have long : (ic_wd κ n ρ μ).length = n := by simp [ic_wd]
  have last : (ic_wd κ n ρ μ ++ [(q, E)])[n]? = some (q, E) := by rw [List.getElem?_append_right (by omega), long, Nat.sub_self]; rfl
  have h1 : q < H1.size := (hP1 n _ last).lt
  have h2 : κ.1 ≤ q := hD1.2 n _ last
  have h3 : ¬ q < κ.1 + n := fun h => by
    have lo : (ic_wd κ n ρ μ ++ [(q, E)])[q - κ.1]? = some (κ.1 + (q - κ.1), ic_en κ ρ μ (q - κ.1)) := by rw [List.getElem?_append_left (by omega), ic_wd_at (by omega)]
    have := hD1.1 (q - κ.1) n _ _ lo last (by show κ.1 + (q - κ.1) = q; omega)
    omega
  omega
section ICN
variable {l : Launch} {κ : ic_K} {M : ic_Md} {X : State → Array Value → Prop} {Z : State → List Frame → Array Value → State → Prop} {pc pc' : Nat} {L L' : List (Nat × Value)} {S : List Value} {w : ic_S} {c0 s0 c1 s1 : Nat} {α : Type} {R : α} {F : ic_S → Option α}
theorem ic_S_grow {s : State} {H H1 : Heap} {locs : List Loc} {n : Nat} (hB : κ.1 ≤ s.heap.size) (hS : va_S (ic_A κ) s.heap H locs) (hsz : H.size = κ.1 + n) (z : H1.size = κ.1 + n + 1) (o : ∀ q, q < κ.1 + n → H1[q]? = H[q]?) : va_S (ic_A κ) s.heap H1 locs :=
  ⟨by rw [z, ← hsz]; exact Nat.le_succ_of_le hS.1, fun q h1 h2 => by
    have := hS.1
    rw [o q (by omega)]; exact hS.2.1 q h1 h2, hS.2.2⟩
theorem iw_new {ci i N : Nat} {C : String} {T : u_T} {ty : Nat → FieldType} (hf : ic_nw w 0 ci F = some R) (fk : ic_FK ci C T N ty) (hw1 : Cond.classLink M.1.cls i C ∈ ic_tb) (hw2 : Cond.instantiable C N ∈ ic_tb) (hw3 : Cond.initialized C ∈ ic_tb) (hz : ∀ k, k < N → defaultValue (ty k) = if ic_isr ci k = true then .null else .int 0)
    (hd : decode M.2.1 pc = .ok (.new i, 3) ∧ pc + 3 = pc' ∧ c0 + 1 = c1 ∧ s0 + N = s1 ∧ c1 ≤ M.2.2.2.2.cells ∧ s1 ≤ M.2.2.2.2.slots)
    (kk : ∀ w', F w' = some R → ic_W l κ M X Z pc' L (ic_rv κ.1 (w.1 + 1) :: S) w'.1 w'.2.1 w'.2.2 c1 s1) : ic_W l κ M X Z pc L S w.1 w.2.1 w.2.2 c0 s0 := by
  obtain ⟨hd, rfl, rfl, rfl, h1, h2⟩ := hd
  by_cases hsh : ic_sh w.1 = (0, ci)
  · rw [ic_nw, if_pos hsh] at hf
    obtain ⟨hc, hnf, hin, hty, hnm⟩ := fk
    subst hnf
    intro p e s m args below meth c C0 hX hK hB ls H locs hl hP hS
    have hKn := hK.1 ci _ hc
    refine W.newcK C0.1 C0.2.1 C0.2.2.2.2.2.1 (C0.2.2.2.2.2.2.1 _ hw1) (C0.2.2.2.2.2.2.1 _ hw2) (C0.2.2.2.2.2.2.1 _ hw3) rfl hd h1 h2 hKn.2.1 hP.2 fun H1 kC hkC e1 z1 o1 => ?_
    refine kk _ hf p e s m args below meth c C0 hX hK hB ls H1 locs hl (ic_H_new hP z1 o1 ?_) (ic_S_grow hB hS hP.2 z1 o1)
    rw [ic_en0 hsh]
    refine ⟨_, hc, (u_born ty C0.2.2.2.2.2.2.1 hin hKn hkC e1 hty).to fun k hk => ?_⟩
    dsimp only
    rw [hz k hk]
    simp only [vp_V, List.getD, List.getElem?_map, List.getElem?_range hk, Option.map_some, Option.getD_some, ic_fv, ic_zr, ic_zm, if_true]
    split <;> rfl
  · rw [ic_nw, if_neg hsh] at hf; cases hf
/-- a new array of ints, of booleans -/
theorem iw_newi {N : Nat} {x : Int32} (hf : ic_nw w 1 N F = some R) (hw : Cond.arrayClass .int ∈ ic_tb) (hx : ¬ x < 0 ∧ x.toNatClampNeg = N ∧ N * 4 ≤ 536870912) (hd : decode M.2.1 pc = .ok (.newarray .int, 2) ∧ pc + 2 = pc' ∧ c0 + 1 = c1 ∧ s0 + N = s1 ∧ c1 ≤ M.2.2.2.2.cells ∧ s1 ≤ M.2.2.2.2.slots)
    (kk : ∀ w', F w' = some R → ic_W l κ M X Z pc' L (ic_rv κ.1 (w.1 + 1) :: S) w'.1 w'.2.1 w'.2.2 c1 s1) : ic_W l κ M X Z pc L (.int x :: S) w.1 w.2.1 w.2.2 c0 s0 := by
  obtain ⟨hd, rfl, rfl, rfl, h1, h2⟩ := hd
  by_cases hsh : ic_sh w.1 = (1, N)
  · rw [ic_nw, if_pos hsh] at hf
    intro p e s m args below meth c C0 hX hK hB ls H locs hl hP hS
    refine va_newaK (atype := .int) C0.1 C0.2.1 (C0.2.2.2.2.2.2.1 _ hw) rfl hd rfl hx.1 hx.2.1 hx.2.2 h1 h2 hP.2 fun H1 cA e1 z1 o1 hAr hNm => ?_
    refine kk _ hf p e s m args below meth c C0 hX hK hB ls H1 locs hl (ic_H_new hP z1 o1 ?_) (ic_S_grow hB hS hP.2 z1 o1)
    rw [ic_en1 hsh]
    have hcA : cA = κ.2.2 0 := Option.some.inj (hNm.symm.trans (hK.2 0 _ rfl).2)
    show H1[κ.1 + w.1]? = some (vp_cell _ _)
    rw [e1, hcA, vp_cell_i]
    simp only [ic_zm, if_true]
    rfl
  · rw [ic_nw, if_neg hsh] at hf; cases hf
theorem iw_newz {N : Nat} {x : Int32} (hf : ic_nw w 2 N F = some R) (hw : Cond.arrayClass .boolean ∈ ic_tb) (hx : ¬ x < 0 ∧ x.toNatClampNeg = N ∧ N * 1 ≤ 536870912) (hd : decode M.2.1 pc = .ok (.newarray .boolean, 2) ∧ pc + 2 = pc' ∧ c0 + 1 = c1 ∧ s0 + N = s1 ∧ c1 ≤ M.2.2.2.2.cells ∧ s1 ≤ M.2.2.2.2.slots)
    (kk : ∀ w', F w' = some R → ic_W l κ M X Z pc' L (ic_rv κ.1 (w.1 + 1) :: S) w'.1 w'.2.1 w'.2.2 c1 s1) : ic_W l κ M X Z pc L (.int x :: S) w.1 w.2.1 w.2.2 c0 s0 := by
  obtain ⟨hd, rfl, rfl, rfl, h1, h2⟩ := hd
  by_cases hsh : ic_sh w.1 = (2, N)
  · rw [ic_nw, if_pos hsh] at hf
    intro p e s m args below meth c C0 hX hK hB ls H locs hl hP hS
    refine va_newaK (atype := .boolean) C0.1 C0.2.1 (C0.2.2.2.2.2.2.1 _ hw) rfl hd rfl hx.1 hx.2.1 hx.2.2 h1 h2 hP.2 fun H1 cA e1 z1 o1 hAr hNm => ?_
    refine kk _ hf p e s m args below meth c C0 hX hK hB ls H1 locs hl (ic_H_new hP z1 o1 ?_) (ic_S_grow hB hS hP.2 z1 o1)
    rw [ic_en2 hsh]
    have hcA : cA = κ.2.2 1 := Option.some.inj (hNm.symm.trans (hK.2 1 _ rfl).2)
    show H1[κ.1 + w.1]? = some (vp_cell _ _)
    rw [e1, hcA, vp_cell_i]
    simp only [ic_zm, if_true]
    rfl
  · rw [ic_nw, if_neg hsh] at hf; cases hf
/-- a new array of references: t 3 of Ice, 4 of Image -/
theorem iw_newq {t N i : Nat} {C : String} {x : Int32} (ht : (t = 3 ∧ C = "IceLaw$Ice") ∨ (t = 4 ∧ C = "IceLaw$Image")) (hf : ic_nw w t N F = some R) (hw1 : Cond.classLink M.1.cls i C ∈ ic_tb) (hw2 : Cond.arrayOver (.object C) ∈ ic_tb) (hx : ¬ x < 0 ∧ x.toNatClampNeg = N ∧ N * 4 ≤ 536870912) (hd : decode M.2.1 pc = .ok (.anewarray i, 3) ∧ pc + 3 = pc' ∧ c0 + 1 = c1 ∧ s0 + N = s1 ∧ c1 ≤ M.2.2.2.2.cells ∧ s1 ≤ M.2.2.2.2.slots)
    (kk : ∀ w', F w' = some R → ic_W l κ M X Z pc' L (ic_rv κ.1 (w.1 + 1) :: S) w'.1 w'.2.1 w'.2.2 c1 s1) : ic_W l κ M X Z pc L (.int x :: S) w.1 w.2.1 w.2.2 c0 s0 := by
  obtain ⟨hd, rfl, rfl, rfl, h1, h2⟩ := hd
  obtain ⟨hx1, hx2, hx3⟩ := hx
  by_cases hsh : ic_sh w.1 = (t, N)
  · rw [ic_nw, if_pos hsh] at hf
    intro p e s m args below meth c C0 hX hK hB ls H locs hl hP hS
    refine ic_tight fun d hc hz => va_newq C0.1 C0.2.1 C0.2.2.2.2.2.1 (C0.2.2.2.2.2.2.1 _ hw1) (va_AO.of (C0.2.2.2.2.2.2.1 _ hw2)) hK hP.1 (ic_D κ w.1 w.2.1 w.2.2) hS (fun _ h => Nat.le_trans hB h) hx1 hx2 hx3 (Nat.le_trans (Nat.succ_le_succ hc) h1) h2 hd fun q cA H1 hK1 hP1 hD1 hS1 => ?_
    refine ic_loose (Nat.succ_le_succ hc) fun up => ?_
    obtain ⟨rfl, size⟩ := ic_next hP1 hD1 (by rw [← hP.2, ← hz]; exact up)
    have named := (hK1.2 4 _ rfl).2
    have entry : ic_en κ (ic_zr w.2.1 (w.1 + 1)) (ic_zm w.2.2 (w.1 + 1)) w.1 = .inl (cA, N, .inr (.inr (.inr (.inr (fun _ => none))))) := by
      obtain ⟨_, _, _, _, _, n1⟩ := named
      rcases ht with ⟨rfl, rfl⟩ | ⟨rfl, rfl⟩
      · obtain ⟨_, _, _, _, _, n2⟩ := (hK.2 2 _ rfl).2
        have same : cA = κ.2.2 2 := Option.some.inj (n1.symm.trans n2)
        rw [ic_en3 hsh, same]
        simp [ic_zr, ic_ro]
      · obtain ⟨_, _, _, _, _, n2⟩ := (hK.2 3 _ rfl).2
        have same : cA = κ.2.2 3 := Option.some.inj (n1.symm.trans n2)
        rw [ic_en4 hsh, same]
        simp [ic_zr, ic_ro]
    exact kk _ hf p e s m args below meth c C0 hX hK hB ls H1 locs hl ⟨by rw [ic_wd_new, entry]; exact hP1, size⟩ hS1
  · rw [ic_nw, if_neg hsh] at hf; cases hf
/-- Object's constructor -/
theorem iw_obj {i r : Nat} (hw : Cond.methodLink M.1.cls i Lib.objectInit ∈ ic_tb) (hi : Cond.instanceMethod Lib.objectInit ∈ ic_tb) (hc : Cond.code Lib.objectInit ⟨#[0xb1]⟩ 1 none ∈ ic_tb) (ho : ∃ a, r = a + 1) (hsum : (S.map fun v => v.category).sum ≤ 8) (hd : decode M.2.1 pc = .ok (.invokespecial i, 3) ∧ pc + 3 = pc' ∧ 1 ≤ M.2.2.2.2.frames ∧ 20 ≤ M.2.2.2.2.locals)
    (kk : ic_W l κ M X Z pc' L S w.1 w.2.1 w.2.2 c0 s0) : ic_W l κ M X Z pc L (ic_rv κ.1 r :: S) w.1 w.2.1 w.2.2 c0 s0 := by
  obtain ⟨hd, rfl, h1, h2⟩ := hd
  obtain ⟨a, rfl⟩ := ho
  intro p e s m args below meth c C0 hX hK hB ls H locs hl hP hS
  obtain ⟨hx, hb, hr, hlk, hml, hown, hts, hnm⟩ := id C0
  refine W.objInit hx hb hown (hts _ hw) (hts _ hi) (hts _ hc) rfl (by rw [hml]; exact hl.1.1) rfl hd h1 ?_ (kk p e s m args below meth c C0 hX hK hB ls H locs hl hP hS)
  show 2 * 0 + _ + 12 ≤ _
  omega
/-- another constructor -/
theorem iw_callI {y : ic_Md} {S1 : List Value} {i r : Nat} {w1 : ic_S} (hC : ic_C l κ y [ic_rv κ.1 r] w.1 w.2.1 w.2.2 none w1.1 w1.2.1 w1.2.2) (ho : ∃ a, r = a + 1) (hy : ic_MI y) (hw : Cond.methodLink M.1.cls i y.1 ∈ ic_tb) (hsum : (S.map fun v => v.category).sum ≤ 8)
    (hd : decode M.2.1 pc = .ok (.invokespecial i, 3) ∧ pc + 3 = pc' ∧ ic_rm M y 0 ∧ c0 + y.2.2.2.2.cells = c1 ∧ s0 + y.2.2.2.2.slots = s1 ∧ c1 ≤ M.2.2.2.2.cells ∧ s1 ≤ M.2.2.2.2.slots)
    (kk : ic_W l κ M X Z pc' L S w1.1 w1.2.1 w1.2.2 c1 s1) : ic_W l κ M X Z pc L (ic_rv κ.1 r :: S) w.1 w.2.1 w.2.2 c0 s0 := by
  obtain ⟨hd, rfl, ⟨hfr, hlo, hsg⟩, rfl, rfl, h1, h2⟩ := hd
  obtain ⟨a, rfl⟩ := ho
  obtain ⟨hy1, hy3, hy4, hy5, hy6, hy7⟩ := hy
  obtain ⟨yn, yc, yl, yr, ym⟩ := y
  dsimp only at hy7
  subst hy7
  intro p e s m args below meth c C0 hX hK hB ls H locs hl hP hS
  obtain ⟨hx, hb, hr, hlk, hml, hown, hts, hnm⟩ := id C0
  exact ic_after (va_runI (As := []) (rest := S) (Ts := ic_tb) ⟨hx, hb, hml, hown, hts⟩ hC ⟨⟨rfl, rfl, hfr, hlo, ic_wsW hts hy4, List.mem_cons_self, hts _ hy4, hts _ hy3, hy5, ic_sig hsg, hts _ hw⟩, hy6, hts _ hy1⟩ ⟨ic_blind, fun U hU hW => ⟨rfl, by rw [hU]; exact hP, va_K.moved hW.alike hK⟩⟩ rfl rfl hl.1.1 rfl (lv_room hsum) hd ⟨h1, h2⟩) hS (fun H1 locs1 hP1 hS1 => kk p e s m args below meth c C0 hX hK hB ls H1 locs1 hl hP1 hS1)
theorem iw_callIN {y : ic_Md} {S1 : List Value} {i r : Nat} {host : String} {w1 : ic_S} (hC : ic_C l κ y [ic_rv κ.1 r] w.1 w.2.1 w.2.2 none w1.1 w1.2.1 w1.2.2) (ho : ∃ a, r = a + 1) (hy : ic_MI y) (hw : Cond.methodLinkNest M.1.cls i y.1 host ∈ ic_tb) (hsum : (S.map fun v => v.category).sum ≤ 8)
    (hd : decode M.2.1 pc = .ok (.invokespecial i, 3) ∧ pc + 3 = pc' ∧ ic_rm M y 0 ∧ c0 + y.2.2.2.2.cells = c1 ∧ s0 + y.2.2.2.2.slots = s1 ∧ c1 ≤ M.2.2.2.2.cells ∧ s1 ≤ M.2.2.2.2.slots)
    (kk : ic_W l κ M X Z pc' L S w1.1 w1.2.1 w1.2.2 c1 s1) : ic_W l κ M X Z pc L (ic_rv κ.1 r :: S) w.1 w.2.1 w.2.2 c0 s0 := by
  obtain ⟨hd, rfl, ⟨hfr, hlo, hsg⟩, rfl, rfl, h1, h2⟩ := hd
  obtain ⟨a, rfl⟩ := ho
  obtain ⟨hy1, hy3, hy4, hy5, hy6, hy7⟩ := hy
  obtain ⟨yn, yc, yl, yr, ym⟩ := y
  dsimp only at hy7
  subst hy7
  intro p e s m args below meth c C0 hX hK hB ls H locs hl hP hS
  obtain ⟨hx, hb, hr, hlk, hml, hown, hts, hnm⟩ := id C0
  exact ic_after (va_runIN (As := []) (rest := S) (Ts := ic_tb) ⟨hx, hb, hml, hown, hts⟩ hC ⟨⟨⟨rfl, rfl, hfr, hlo, ic_wsW hts hy4, List.mem_cons_self⟩, hts _ hy4, hts _ hy3, hy5, ic_sig hsg, hts _ hw⟩, hy6, hts _ hy1⟩ ⟨ic_blind, fun U hU hW => ⟨rfl, by rw [hU]; exact hP, va_K.moved hW.alike hK⟩⟩ rfl rfl hl.1.1 rfl (lv_room hsum) hd ⟨h1, h2⟩) hS (fun H1 locs1 hP1 hS1 => kk p e s m args below meth c C0 hX hK hB ls H1 locs1 hl hP1 hS1)
/-- a reference into an array of references -/
theorem iw_aast {t N ci r q : Nat} {j : Int32} (ht : (t = 3 ∧ ci = 1) ∨ (t = 4 ∧ ci = 2)) (hf : ic_jr w r j.toNatClampNeg q F = some R) (hr : ∃ a, r = a + 1 ∧ a < w.1 ∧ ic_sh a = (t, N)) (hq : ∃ a, q = a + 1 ∧ a < w.1 ∧ ic_sh a = (0, ci)) (hj : ¬ (j < 0 ∨ N ≤ j.toNatClampNeg)) (hd : decode M.2.1 pc = .ok (.aastore, 1) ∧ pc + 1 = pc')
    (kk : ∀ w', F w' = some R → ic_W l κ M X Z pc' L S w'.1 w'.2.1 w'.2.2 c0 s0) : ic_W l κ M X Z pc L (ic_rv κ.1 q :: .int j :: ic_rv κ.1 r :: S) w.1 w.2.1 w.2.2 c0 s0 := by
  obtain ⟨hd, rfl⟩ := hd
  obtain ⟨a, rfl, ha, hsa⟩ := hr
  obtain ⟨b, rfl, hb', hsb⟩ := hq
  have main : ∀ (t0 : Nat) (rr : vw_C), ic_cls[ci]? = some rr → (ic_wd κ w.1 w.2.1 w.2.2)[a]? = some (κ.1 + a, .inl (κ.2.2 t0, N, .inr (.inr (.inr (.inr (fun j => ic_ro κ.1 (w.2.1 (a + 1) j))))))) → (ic_ty κ)[t0]? = some (κ.2.2 t0, .object rr.1) → (ic_en κ (ic_ur w.2.1 (a + 1) j.toNatClampNeg (b + 1)) w.2.2 a = .inl (κ.2.2 t0, N, .inr (.inr (.inr (.inr (fun k => ic_ro κ.1 (ic_ur w.2.1 (a + 1) j.toNatClampNeg (b + 1) (a + 1) k))))))) → ic_W l κ M X Z pc L (ic_rv κ.1 (b + 1) :: .int j :: ic_rv κ.1 (a + 1) :: S) w.1 w.2.1 w.2.2 c0 s0 := by
    intro t0 rr hc hat ht0 hen
    intro p e s m args below meth c C0 hX hK hB ls H locs hl hP hS
    have put : va_up (fun k => ic_ro κ.1 (w.2.1 (a + 1) k)) j.toNatClampNeg (some (κ.1 + b)) = fun k => ic_ro κ.1 (ic_ur w.2.1 (a + 1) j.toNatClampNeg (b + 1) (a + 1) k) := by
      funext k
      by_cases hk : k = j.toNatClampNeg <;> simp [va_up, ic_ur, ic_ro, hk]
    refine ic_tight fun d hc' hz => va_astq C0.1 C0.2.1 hK hP.1 (ic_D κ w.1 w.2.1 w.2.2) hS a t0 b ci hat ht0 (by rw [ic_wd_at hb', ic_en0 hsb]) hc hj hd fun H1 locs1 hP1 _ hS1 => ?_
    rw [put, ic_set (ρ' := ic_ur w.2.1 (a + 1) j.toNatClampNeg (b + 1)) (μ' := w.2.2) hen (fun b hb => ic_en_ur_ne hb)] at hP1
    exact ic_loose hc' fun up => kk _ hf p e s m args below meth c C0 hX hK hB ls H1 locs1 hl (ic_H_same ha hP.2 hz hP1 up) hS1
  rcases ht with ⟨rfl, rfl⟩ | ⟨rfl, rfl⟩
  · exact main 2 _ rfl (by rw [ic_wd_at ha, ic_en3 hsa]) rfl (by rw [ic_en3 hsa])
  · exact main 3 _ rfl (by rw [ic_wd_at ha, ic_en4 hsa]) rfl (by rw [ic_en4 hsa])
/-- a branch that is decided -/
theorem iw_geT {x y : Int32} {off : Int} {tg : Nat} (h : y ≤ x) (hd : decode M.2.1 pc = .ok (.if_icmp .ge off, 3) ∧ (pc : Int) + off = (tg : Int) ∧ pc + 3 = pc') (k : ic_W l κ M X Z tg L S w.1 w.2.1 w.2.2 c0 s0) : ic_W l κ M X Z pc L (.int y :: .int x :: S) w.1 w.2.1 w.2.2 c0 s0 :=
  iw_icmp_ge (T := some ()) (F := none) (R := ()) (by rw [if_pos h]) hd (fun _ => k) (fun h => by cases h)
theorem iw_geF {x y : Int32} {off : Int} {tg : Nat} (h : ¬ y ≤ x) (hd : decode M.2.1 pc = .ok (.if_icmp .ge off, 3) ∧ (pc : Int) + off = (tg : Int) ∧ pc + 3 = pc') (k : ic_W l κ M X Z pc' L S w.1 w.2.1 w.2.2 c0 s0) : ic_W l κ M X Z pc L (.int y :: .int x :: S) w.1 w.2.1 w.2.2 c0 s0 :=
  iw_icmp_ge (T := none) (F := some ()) (R := ()) (by rw [if_neg h]) hd (fun h => by cases h) (fun _ => k)
theorem iw_iinc0 {n : Nat} {ρ : ic_R} {μ : ic_M} {i : Nat} {d : Int} {x v y : Int32} (j : Nat) (hj : L[j]? = some (i, .int x)) (hy : x + v = y) (hL : ic_st L i (.int y) = L') (hd : decode M.2.1 pc = .ok (.iinc i d, 3) ∧ pc + 3 = pc' ∧ i < M.2.2.1 ∧ Int32.ofInt d = v) (k : ic_W l κ M X Z pc' L' S n ρ μ c0 s0) : ic_W l κ M X Z pc L S n ρ μ c0 s0 := by
  subst hy; subst hL
  exact iw_iinc (T := fun z => if z = x + v then some () else none) (R := ()) (L1 := fun z => ic_st L i (.int z)) (by simp [ic_lt]) j hj (fun _ => rfl) hd (fun z hz => by
    by_cases h : z = x + v
    · subst h; exact k
    · rw [if_neg h] at hz; cases hz)
theorem iw_jput {r ci k i N : Nat} {C : String} {T : u_T} {ty : Nat → FieldType} {x : Int32} (hf : ic_ji w r k x F = some R) (fk : ic_FK ci C T N ty) (ho : ∃ a, r = a + 1 ∧ a < w.1 ∧ ic_sh a = (0, ci)) (hw : Cond.fieldLink M.1.cls i C (T k).2.1 (T k).2.2.1 ∈ ic_tb) (hd : decode M.2.1 pc = .ok (.putfield i, 3) ∧ pc + 3 = pc' ∧ k < N ∧ (T k).1 = C ∧ (T k).2.2.2 = false ∧ ty k = .int ∧ ic_isr ci k = false)
    (kk : ∀ w', F w' = some R → ic_W l κ M X Z pc' L S w'.1 w'.2.1 w'.2.2 c0 s0) : ic_W l κ M X Z pc L (.int x :: ic_rv κ.1 r :: S) w.1 w.2.1 w.2.2 c0 s0 :=
  iw_put (F := fun μ' => F (w.1, w.2.1, μ')) hf fk ho hw hd (fun μ' h => kk (w.1, w.2.1, μ') h)
theorem iw_jputr {r q ci k i N : Nat} {C : String} {T : u_T} {ty : Nat → FieldType} (hf : ic_jr w r k q F = some R) (fk : ic_FK ci C T N ty) (ho : ∃ a, r = a + 1 ∧ a < w.1 ∧ ic_sh a = (0, ci)) (hw : Cond.fieldLink M.1.cls i C (T k).2.1 (T k).2.2.1 ∈ ic_tb) (hfit : fits (ty k) (ic_rv κ.1 q) = true ∧ narrow (ty k) (ic_rv κ.1 q) = ic_rv κ.1 q) (hd : decode M.2.1 pc = .ok (.putfield i, 3) ∧ pc + 3 = pc' ∧ k < N ∧ (T k).1 = C ∧ ((T k).2.2.2 = false ∨ ((T k).2.2.2 = true ∧ M.1.name = "<init>" ∧ C = M.1.cls)) ∧ ic_isr ci k = true)
    (kk : ∀ w', F w' = some R → ic_W l κ M X Z pc' L S w'.1 w'.2.1 w'.2.2 c0 s0) : ic_W l κ M X Z pc L (ic_rv κ.1 q :: ic_rv κ.1 r :: S) w.1 w.2.1 w.2.2 c0 s0 :=
  iw_putr fk ho hw hfit hd (kk (w.1, ic_ur w.2.1 r k q, w.2.2) hf)
theorem iw_jast {r N : Nat} {j x : Int32} (hf : ic_ji w r j.toNatClampNeg x F = some R) (hi : ∃ a, r = a + 1 ∧ a < w.1 ∧ ic_sh a = (1, N)) (hj : ¬ (j < 0 ∨ N ≤ j.toNatClampNeg)) (hd : decode M.2.1 pc = .ok (.iastore, 1) ∧ pc + 1 = pc')
    (kk : ∀ w', F w' = some R → ic_W l κ M X Z pc' L S w'.1 w'.2.1 w'.2.2 c0 s0) : ic_W l κ M X Z pc L (.int x :: .int j :: ic_rv κ.1 r :: S) w.1 w.2.1 w.2.2 c0 s0 :=
  iw_iast (N := N) (T := fun μ' => F (w.1, w.2.1, μ')) (R := R) (by rw [ic_as, if_neg hj]; exact hf) (fun _ => hi) hd (fun μ' h => kk (w.1, w.2.1, μ') h)
theorem iw_jret {R' : ic_S} (hf : some w = some R') (hd : decode M.2.1 pc = .ok (.return_, 1) ∧ M.2.2.2.1 = none ∧ c0 = M.2.2.2.2.cells ∧ s0 = M.2.2.2.2.slots) : ic_W l κ M X (ic_Z κ M none R'.1 R'.2.1 R'.2.2) pc L [] w.1 w.2.1 w.2.2 c0 s0 := by
  obtain rfl := Option.some.inj hf
  exact iw_vreturn rfl rfl hd
theorem ic_fitA {B q : Nat} {C : FieldType} : fits (.array C) (ic_rv B q) = true ∧ narrow (.array C) (ic_rv B q) = ic_rv B q := by
  cases q <;> exact ⟨rfl, rfl⟩
theorem ic_fitO {B q : Nat} {C : String} : fits (.object C) (ic_rv B q) = true ∧ narrow (.object C) (ic_rv B q) = ic_rv B q := by
  cases q <;> exact ⟨rfl, rfl⟩
end ICN
