/-! ===== fields, arrays, calls, returns ===== -/
/-- reading an int array of n places -/
def ic_ag {α : Type} (μ : ic_M) (r N : Nat) (j : Int32) (T : Int32 → Option α) : Option α := if j < 0 ∨ N ≤ j.toNatClampNeg then none else T (μ r j.toNatClampNeg)
/-- writing one -/
def ic_as {α : Type} (μ : ic_M) (r N : Nat) (j v : Int32) (T : ic_M → Option α) : Option α := if j < 0 ∨ N ≤ j.toNatClampNeg then none else T (ic_up μ r j.toNatClampNeg v)
/-- writing a boolean one -/
def ic_az {α : Type} (μ : ic_M) (r N : Nat) (j v : Int32) (T : ic_M → Option α) : Option α := if j < 0 ∨ N ≤ j.toNatClampNeg then none else if v = 0 ∨ v = 1 then T (ic_up μ r j.toNatClampNeg v) else none
/-- an index looked at (an array of references) -/
def ic_ax {α : Type} (N : Nat) (j : Int32) (T : Option α) : Option α := if j < 0 ∨ N ≤ j.toNatClampNeg then none else T
/-- a boolean answer -/
def ic_rz {α : Type} (v : Int32) (T : Option α) : Option α := if v = 0 ∨ v = 1 then T else none
def ic_isO (n r ci : Nat) : Prop := ∃ a, r = a + 1 ∧ a < n ∧ ic_sh a = (0, ci)
def ic_isI (n r N : Nat) : Prop := ∃ a, r = a + 1 ∧ a < n ∧ ic_sh a = (1, N)
def ic_isZ (n r N : Nat) : Prop := ∃ a, r = a + 1 ∧ a < n ∧ ic_sh a = (2, N)
/-- the length of an int array, 0 if it is none -/
def ic_il (n r : Nat) : Nat := if r = 0 then 0 else if r - 1 < n then (match ic_sh (r - 1) with | (1, N) => N | _ => 0) else 0
theorem ic_il_is {n r : Nat} {j : Int32} (h : ¬ (j < 0 ∨ ic_il n r ≤ j.toNatClampNeg)) : ic_isI n r (ic_il n r) := by
  have h2 : 0 < ic_il n r := by
    rcases Nat.eq_zero_or_pos (ic_il n r) with h0 | h0
    · exact absurd (Or.inr (by omega)) h
    · exact h0
  unfold ic_il at h2 ⊢
  split at h2
  · exact absurd h2 (by omega)
  · rename_i h0
    split at h2
    · rename_i h1
      rw [if_neg h0, if_pos h1]
      refine ⟨r - 1, by omega, h1, ?_⟩
      split at h2
      · rename_i N hN
        rw [hN]
      · exact absurd h2 (by omega)
    · exact absurd h2 (by omega)
theorem ic_il_of {n r N : Nat} (h : ic_isI n r N) : ic_il n r = N := by
  obtain ⟨a, rfl, ha, hs⟩ := h
  simp [ic_il, ha, hs]
theorem ic_en0 {κ : ic_K} {ρ : ic_R} {μ : ic_M} {a ci : Nat} (h : ic_sh a = (0, ci)) : ic_en κ ρ μ a = .inr (ci, (List.range (ic_nf ci)).map (ic_fv κ ρ μ a ci)) := by simp only [ic_en, h]
theorem ic_en1 {κ : ic_K} {ρ : ic_R} {μ : ic_M} {a N : Nat} (h : ic_sh a = (1, N)) : ic_en κ ρ μ a = .inl (κ.2.2 0, N, .inl (μ (a + 1))) := by simp only [ic_en, h]
theorem ic_en2 {κ : ic_K} {ρ : ic_R} {μ : ic_M} {a N : Nat} (h : ic_sh a = (2, N)) : ic_en κ ρ μ a = .inl (κ.2.2 1, N, .inl (μ (a + 1))) := by simp only [ic_en, h]
theorem ic_en3 {κ : ic_K} {ρ : ic_R} {μ : ic_M} {a N : Nat} (h : ic_sh a = (3, N)) : ic_en κ ρ μ a = .inl (κ.2.2 2, N, .inr (.inr (.inr (.inr (fun j => ic_ro κ.1 (ρ (a + 1) j)))))) := by simp only [ic_en, h]
theorem ic_en4 {κ : ic_K} {ρ : ic_R} {μ : ic_M} {a N : Nat} (h : ic_sh a = (4, N)) : ic_en κ ρ μ a = .inl (κ.2.2 3, N, .inr (.inr (.inr (.inr (fun j => ic_ro κ.1 (ρ (a + 1) j)))))) := by simp only [ic_en, h]
section ICH
variable {l : Launch} {κ : ic_K} {M : ic_Md} {X : State → Array Value → Prop} {Z : State → List Frame → Array Value → State → Prop} {pc pc' : Nat} {L L' : List (Nat × Value)} {S : List Value} {n : Nat} {ρ : ic_R} {μ : ic_M} {c0 s0 : Nat}
theorem iw_get {r ci k i N : Nat} {C : String} {T : u_T} {ty : Nat → FieldType} {v : Value} (fk : ic_FK ci C T N ty) (ho : ic_isO n r ci) (hv : ic_fv κ ρ μ (r - 1) ci k = v) (hw : Cond.fieldLink M.1.cls i C (T k).2.1 (T k).2.2.1 ∈ ic_tb) (hd : decode M.2.1 pc = .ok (.getfield i, 3) ∧ pc + 3 = pc' ∧ k < N ∧ (T k).1 = C)
    (kk : ic_W l κ M X Z pc' L (v :: S) n ρ μ c0 s0) : ic_W l κ M X Z pc L (ic_rv κ.1 r :: S) n ρ μ c0 s0 := by
  obtain ⟨hd, rfl, hk, hC⟩ := hd
  obtain ⟨a, rfl, ha, hs⟩ := ho
  obtain ⟨hc, hnf, hin, -, -⟩ := fk
  subst hnf; subst hv
  intro p e s m args below meth c C0 hX hK hB ls H locs hl hP hS
  exact va_get (D := κ.2.1) (fs := (List.range (ic_nf ci)).map (ic_fv κ ρ μ a ci)) C0.1 C0.2.1 C0.2.2.2.2.2.2.1 hin C0.2.2.2.2.2.1 hK hP.1 a (by rw [ic_wd_at ha, ic_en0 hs]) hc k hk (C0.2.2.2.2.2.2.1 _ hw) (fun x h => by rw [hC] at h; exact h) (v := ic_fv κ ρ μ a ci k) (by simp [hk]) hd (kk p e s m args below meth c C0 hX hK hB ls H locs hl hP hS)
theorem iw_getN {r ci k i N : Nat} {C host : String} {T : u_T} {ty : Nat → FieldType} {v : Value} (fk : ic_FK ci C T N ty) (ho : ic_isO n r ci) (hv : ic_fv κ ρ μ (r - 1) ci k = v) (hw : Cond.fieldLinkNest M.1.cls i C (T k).2.1 (T k).2.2.1 host ∈ ic_tb) (hd : decode M.2.1 pc = .ok (.getfield i, 3) ∧ pc + 3 = pc' ∧ k < N ∧ (T k).1 = C)
    (kk : ic_W l κ M X Z pc' L (v :: S) n ρ μ c0 s0) : ic_W l κ M X Z pc L (ic_rv κ.1 r :: S) n ρ μ c0 s0 := by
  obtain ⟨hd, rfl, hk, hC⟩ := hd
  obtain ⟨a, rfl, ha, hs⟩ := ho
  obtain ⟨hc, hnf, hin, -, -⟩ := fk
  subst hnf; subst hv
  intro p e s m args below meth c C0 hX hK hB ls H locs hl hP hS
  exact va_getN (D := κ.2.1) (fs := (List.range (ic_nf ci)).map (ic_fv κ ρ μ a ci)) C0.1 C0.2.1 C0.2.2.2.2.2.2.1 hin C0.2.2.2.2.2.1 hK hP.1 a (by rw [ic_wd_at ha, ic_en0 hs]) hc k hk (C0.2.2.2.2.2.2.1 _ hw) (fun x h => by rw [hC] at h; exact h) (v := ic_fv κ ρ μ a ci k) (by simp [hk]) hd (kk p e s m args below meth c C0 hX hK hB ls H locs hl hP hS)
theorem ic_fint {r ci k : Nat} (ho : ic_isO n r ci) (hk : ic_isr ci k = false) : ic_fv κ ρ μ (r - 1) ci k = .int (μ r k) := by
  obtain ⟨a, rfl, ha, hs⟩ := ho
  simp [ic_fv, hk]
theorem ic_fref {r ci k q : Nat} (ho : ic_isO n r ci) (hk : ic_isr ci k = true) (hq : ρ r k = q) : ic_fv κ ρ μ (r - 1) ci k = ic_rv κ.1 q := by
  obtain ⟨a, rfl, ha, hs⟩ := ho
  subst hq
  simp [ic_fv, hk]
theorem iw_geti {r ci k i N : Nat} {C : String} {T : u_T} {ty : Nat → FieldType} (fk : ic_FK ci C T N ty) (ho : ic_isO n r ci) (hw : Cond.fieldLink M.1.cls i C (T k).2.1 (T k).2.2.1 ∈ ic_tb) (hd : (decode M.2.1 pc = .ok (.getfield i, 3) ∧ pc + 3 = pc' ∧ k < N ∧ (T k).1 = C) ∧ ic_isr ci k = false)
    (kk : ic_W l κ M X Z pc' L (.int (μ r k) :: S) n ρ μ c0 s0) : ic_W l κ M X Z pc L (ic_rv κ.1 r :: S) n ρ μ c0 s0 := iw_get fk ho (ic_fint ho hd.2) hw hd.1 kk
theorem iw_getr {r ci k i N q : Nat} {C : String} {T : u_T} {ty : Nat → FieldType} (fk : ic_FK ci C T N ty) (ho : ic_isO n r ci) (hq : ρ r k = q) (hw : Cond.fieldLink M.1.cls i C (T k).2.1 (T k).2.2.1 ∈ ic_tb) (hd : (decode M.2.1 pc = .ok (.getfield i, 3) ∧ pc + 3 = pc' ∧ k < N ∧ (T k).1 = C) ∧ ic_isr ci k = true)
    (kk : ic_W l κ M X Z pc' L (ic_rv κ.1 q :: S) n ρ μ c0 s0) : ic_W l κ M X Z pc L (ic_rv κ.1 r :: S) n ρ μ c0 s0 := iw_get fk ho (ic_fref ho hd.2 hq) hw hd.1 kk
/-- the count of new cells may be taken as tight as it is -/
theorem ic_tight {p : Program} {e : Env} {R : Room} {s : State} {m : MethodId} {args : Array Value} {below : List Frame} {meth : Method} {c : Code} {H : Heap} {locs : List Loc} {Q : State → Prop} {g : JFrame}
    (h : ∀ j, j ≤ c0 → s.heap.size + j = H.size → W p l e R s m args below meth c H locs j s0 Q g) : W p l e R s m args below meth c H locs c0 s0 Q g := by
  intro T hT Y
  have z1 : s.heap.size ≤ T.heap.size := Y.same.2.1
  have z2 := Y.heapSize
  have z3 : s.heap.size + (T.heap.size - s.heap.size) = T.heap.size := by omega
  exact h (T.heap.size - s.heap.size) (by omega) (by rw [← hT]; exact z3) T hT { Y with same := ⟨Y.same.1, z1, Nat.le_of_eq z3.symm, Y.same.2.2.2⟩ }
/-- and a tight count bounds the heap that comes -/
theorem ic_loose {p : Program} {e : Env} {R : Room} {s : State} {m : MethodId} {args : Array Value} {below : List Frame} {meth : Method} {c : Code} {H : Heap} {locs : List Loc} {Q : State → Prop} {g : JFrame} {j : Nat} (hj : j ≤ c0)
    (h : H.size ≤ s.heap.size + j → W p l e R s m args below meth c H locs c0 s0 Q g) : W p l e R s m args below meth c H locs j s0 Q g := fun T hT Y =>
  h (hT ▸ Y.heapSize) T hT (stand_widen Y hj (Nat.le_refl _))
/-- a heap that holds the cells of the layout and is no larger than it was is the layout's heap -/
theorem ic_H_same {s : State} {H H1 : Heap} {a j : Nat} {ρ' : ic_R} {μ' : ic_M} (ha : a < n) (was : H.size = κ.1 + n) (hz : s.heap.size + j = H.size) (hP1 : va_P κ.2.1 ic_cls (ic_wd κ n ρ' μ') H1) (up : H1.size ≤ s.heap.size + j) : ic_H κ n ρ' μ' H1 := by
  have low : κ.1 + (n - 1) < H1.size := (hP1 (n - 1) _ (ic_wd_at (by omega))).lt
  exact ⟨hP1, by omega⟩
/-- a field is put: the world behind it, whatever value -/
theorem ic_putW {p : Program} {e : Env} {R : Room} {s : State} {m : MethodId} {args : Array Value} {below : List Frame} {meth : Method} {c : Code} {H : Heap} {locs : List Loc} {Q : State → Prop} {cc : ByteArray} {ls : Array Slot} {own C : String} {T : u_T} {N ci index a k : Nat} {ty0 : Nat → FieldType} {v : Value} {ρ' : ic_R} {μ' : ic_M}
    (hexec : p.tables.exec = Jvm.exec) (hb : c.code = cc) (hts : ∀ w ∈ ic_tb, w.before args s = true) (fk : ic_FK ci C T N ty0) (hown : s.vm.findClass own = some m.cls) (hK : ic_KK κ s) (hP : ic_H κ n ρ μ H) (hS0 : va_S (ic_A κ) s.heap H locs) (ha : a < n) (hs : ic_sh a = (0, ci)) (hk : k < N) (hlink : (Cond.fieldLink own index C (T k).2.1 (T k).2.2.1).before args s = true) (hC : (T k).1 = C) (hfin : (T k).2.2.2 = false ∨ ((T k).2.2.2 = true ∧ meth.name = "<init>" ∧ C = own)) (hn : narrow (ty0 k) v = v) (hfit : fits (ty0 k) v = true)
    (hset : ((List.range (ic_nf ci)).map (ic_fv κ ρ μ a ci)).set k v = (List.range (ic_nf ci)).map (ic_fv κ ρ' μ' a ci)) (hoth : ∀ b, b ≠ a → ic_en κ ρ' μ' b = ic_en κ ρ μ b)
    (hdg : decode cc pc = .ok (.putfield index, 3)) (kk : ∀ (H1 : Heap) (locs1 : List Loc), ic_H κ n ρ' μ' H1 → va_S (ic_A κ) s.heap H1 locs1 → W p l e R s m args below meth c H1 locs1 c0 s0 Q (F0 m (pc + 3) ls S)) : W p l e R s m args below meth c H locs c0 s0 Q (F0 m pc ls (v :: .ref (κ.1 + a) :: S)) := by
  obtain ⟨hc, hnf, hin, hty, hnm⟩ := fk
  subst hnf
  have at_a : (ic_wd κ n ρ μ)[a]? = some (κ.1 + a, .inr (ci, (List.range (ic_nf ci)).map (ic_fv κ ρ μ a ci))) := by rw [ic_wd_at ha, ic_en0 hs]
  have long : k < ((List.range (ic_nf ci)).map (ic_fv κ ρ μ a ci)).length := by simpa using hk
  have found : ∀ x, s.fieldFound? (T k).1 (T k).2.1 (T k).2.2.1 = some x → s.fieldFound? C (T k).2.1 (T k).2.2.1 = some x := fun _ h => hC ▸ h
  refine ic_tight fun j hj hz => ?_
  have behind : ∀ (H1 : Heap) (locs1 : List Loc), va_P κ.2.1 ic_cls ((ic_wd κ n ρ μ).set a (κ.1 + a, .inr (ci, ((List.range (ic_nf ci)).map (ic_fv κ ρ μ a ci)).set k v))) H1 → va_D (ic_A κ) ((ic_wd κ n ρ μ).set a (κ.1 + a, .inr (ci, ((List.range (ic_nf ci)).map (ic_fv κ ρ μ a ci)).set k v))) → va_S (ic_A κ) s.heap H1 locs1 → W p l e R s m args below meth c H1 locs1 j s0 Q (F0 m (pc + 3) ls S) := by
    intro H1 locs1 hP1 _ hS1
    rw [hset, ic_set (ρ' := ρ') (μ' := μ') (ic_en0 hs) hoth] at hP1
    exact ic_loose hj fun up => kk H1 locs1 (ic_H_same ha hP.2 hz hP1 up) hS1
  rcases hfin with hf | ⟨hf, hi, ho⟩
  · exact va_put hexec hb hts hin ty0 hty hnm hown hK hP.1 (ic_D κ n ρ μ) hS0 a at_a hc k hk hlink found hf (hty k hk) hn hfit long hdg behind
  · exact va_putF hexec hb hts hin ty0 hty hnm hown hK hP.1 (ic_D κ n ρ μ) hS0 a at_a hc k hk hlink found hf hi (hC.trans ho) (hty k hk) hn hfit long hdg behind
/-- an int field is put -/
theorem iw_put {r ci k i N : Nat} {C : String} {T : u_T} {ty : Nat → FieldType} {x : Int32} {α : Type} {F : ic_M → Option α} {R : α} (hf : ic_pu μ r k x F = some R) (fk : ic_FK ci C T N ty) (ho : ic_isO n r ci) (hw : Cond.fieldLink M.1.cls i C (T k).2.1 (T k).2.2.1 ∈ ic_tb) (hd : decode M.2.1 pc = .ok (.putfield i, 3) ∧ pc + 3 = pc' ∧ k < N ∧ (T k).1 = C ∧ (T k).2.2.2 = false ∧ ty k = .int ∧ ic_isr ci k = false)
    (kk : ∀ μ', F μ' = some R → ic_W l κ M X Z pc' L S n ρ μ' c0 s0) : ic_W l κ M X Z pc L (.int x :: ic_rv κ.1 r :: S) n ρ μ c0 s0 := by
  obtain ⟨hd, rfl, hk, hC, hfin, hI, hir⟩ := hd
  obtain ⟨a, rfl, ha, hs⟩ := ho
  intro p e s m args below meth c C0 hX hK hB ls H locs hl hP hS
  exact ic_putW (ρ' := ρ) (μ' := ic_up μ (a + 1) k x) C0.1 C0.2.1 C0.2.2.2.2.2.2.1 fk C0.2.2.2.2.2.1 hK hP hS ha hs hk (C0.2.2.2.2.2.2.1 _ hw) hC (Or.inl hfin) (by rw [hI]; rfl) (by rw [hI]; rfl) (ic_map_set (by simp [ic_fv, hir, ic_up]) (fun j hj => by simp [ic_fv, ic_up, hj])) (fun b hb => ic_en_up_ne hb) hd
    (fun H1 locs1 hP1 hS1 => kk _ hf p e s m args below meth c C0 hX hK hB ls H1 locs1 hl hP1 hS1)
/-- a reference is put: a field that isn't final, or a final one in the constructor -/
theorem iw_putr {r q ci k i N : Nat} {C : String} {T : u_T} {ty : Nat → FieldType} (fk : ic_FK ci C T N ty) (ho : ic_isO n r ci) (hw : Cond.fieldLink M.1.cls i C (T k).2.1 (T k).2.2.1 ∈ ic_tb) (hfit : fits (ty k) (ic_rv κ.1 q) = true ∧ narrow (ty k) (ic_rv κ.1 q) = ic_rv κ.1 q) (hd : decode M.2.1 pc = .ok (.putfield i, 3) ∧ pc + 3 = pc' ∧ k < N ∧ (T k).1 = C ∧ ((T k).2.2.2 = false ∨ ((T k).2.2.2 = true ∧ M.1.name = "<init>" ∧ C = M.1.cls)) ∧ ic_isr ci k = true)
    (kk : ic_W l κ M X Z pc' L S n (ic_ur ρ r k q) μ c0 s0) : ic_W l κ M X Z pc L (ic_rv κ.1 q :: ic_rv κ.1 r :: S) n ρ μ c0 s0 := by
  obtain ⟨hd, rfl, hk, hC, hfin, hir⟩ := hd
  obtain ⟨a, rfl, ha, hs⟩ := ho
  intro p e s m args below meth c C0 hX hK hB ls H locs hl hP hS
  exact ic_putW (ρ' := ic_ur ρ (a + 1) k q) (μ' := μ) C0.1 C0.2.1 C0.2.2.2.2.2.2.1 fk C0.2.2.2.2.2.1 hK hP hS ha hs hk (C0.2.2.2.2.2.2.1 _ hw) hC (hfin.imp id (fun h => ⟨h.1, C0.2.2.2.2.2.2.2.trans h.2.1, h.2.2⟩)) hfit.2 hfit.1 (ic_map_set (by simp [ic_fv, hir, ic_ur]) (fun j hj => by simp [ic_fv, ic_ur, hj])) (fun b hb => ic_en_ur_ne hb) hd
    (fun H1 locs1 hP1 hS1 => kk p e s m args below meth c C0 hX hK hB ls H1 locs1 hl hP1 hS1)
/-! arrays -/
theorem iw_iald {α : Type} {r N : Nat} {j : Int32} {T : Int32 → Option α} {R : α} (hf : ic_ag μ r N j T = some R) (hi : ¬ (j < 0 ∨ N ≤ j.toNatClampNeg) → ic_isI n r N) (hd : decode M.2.1 pc = .ok (.iaload, 1) ∧ pc + 1 = pc')
    (kk : ∀ x, T x = some R → ic_W l κ M X Z pc' L (.int x :: S) n ρ μ c0 s0) : ic_W l κ M X Z pc L (.int j :: ic_rv κ.1 r :: S) n ρ μ c0 s0 := by
  obtain ⟨hd, rfl⟩ := hd
  by_cases hj : j < 0 ∨ N ≤ j.toNatClampNeg
  · rw [ic_ag, if_pos hj] at hf; cases hf
  · rw [ic_ag, if_neg hj] at hf
    obtain ⟨a, rfl, ha, hs⟩ := hi hj
    intro p e s m args below meth c C0 hX hK hB ls H locs hl hP hS
    exact va_iald (D := κ.2.1) C0.1 C0.2.1 hK hP.1 a 0 (by rw [ic_wd_at ha, ic_en1 hs]) rfl hj hd (kk _ hf p e s m args below meth c C0 hX hK hB ls H locs hl hP hS)
theorem iw_zald {α : Type} {r N : Nat} {j : Int32} {T : Int32 → Option α} {R : α} (hf : ic_ag μ r N j T = some R) (hi : ic_isZ n r N) (hd : decode M.2.1 pc = .ok (.baload, 1) ∧ pc + 1 = pc')
    (kk : ∀ x, T x = some R → ic_W l κ M X Z pc' L (.int x :: S) n ρ μ c0 s0) : ic_W l κ M X Z pc L (.int j :: ic_rv κ.1 r :: S) n ρ μ c0 s0 := by
  obtain ⟨hd, rfl⟩ := hd
  by_cases hj : j < 0 ∨ N ≤ j.toNatClampNeg
  · rw [ic_ag, if_pos hj] at hf; cases hf
  · rw [ic_ag, if_neg hj] at hf
    obtain ⟨a, rfl, ha, hs⟩ := hi
    intro p e s m args below meth c C0 hX hK hB ls H locs hl hP hS
    exact va_zald (D := κ.2.1) C0.1 C0.2.1 hK hP.1 a 1 (by rw [ic_wd_at ha, ic_en2 hs]) rfl hj hd (kk _ hf p e s m args below meth c C0 hX hK hB ls H locs hl hP hS)
theorem iw_alen {r N : Nat} {v : Int32} (hi : ic_isI n r N) (hv : Int32.ofNat N = v) (hd : decode M.2.1 pc = .ok (.arraylength, 1) ∧ pc + 1 = pc')
    (kk : ic_W l κ M X Z pc' L (.int v :: S) n ρ μ c0 s0) : ic_W l κ M X Z pc L (ic_rv κ.1 r :: S) n ρ μ c0 s0 := by
  obtain ⟨hd, rfl⟩ := hd
  obtain ⟨a, rfl, ha, hs⟩ := hi
  intro p e s m args below meth c C0 hX hK hB ls H locs hl hP hS
  exact va_alen (D := κ.2.1) C0.1 C0.2.1 hK hP.1 a 0 (by rw [ic_wd_at ha, ic_en1 hs]) rfl hv hd (kk p e s m args below meth c C0 hX hK hB ls H locs hl hP hS)
theorem iw_zlen {r N : Nat} {v : Int32} (hi : ic_isZ n r N) (hv : Int32.ofNat N = v) (hd : decode M.2.1 pc = .ok (.arraylength, 1) ∧ pc + 1 = pc')
    (kk : ic_W l κ M X Z pc' L (.int v :: S) n ρ μ c0 s0) : ic_W l κ M X Z pc L (ic_rv κ.1 r :: S) n ρ μ c0 s0 := by
  obtain ⟨hd, rfl⟩ := hd
  obtain ⟨a, rfl, ha, hs⟩ := hi
  intro p e s m args below meth c C0 hX hK hB ls H locs hl hP hS
  exact va_alen (D := κ.2.1) C0.1 C0.2.1 hK hP.1 a 1 (by rw [ic_wd_at ha, ic_en2 hs]) rfl hv hd (kk p e s m args below meth c C0 hX hK hB ls H locs hl hP hS)
def ic_isQ (n r t N : Nat) : Prop := ∃ a, r = a + 1 ∧ a < n ∧ ((t = 2 ∧ ic_sh a = (3, N)) ∨ (t = 3 ∧ ic_sh a = (4, N)))
theorem iw_qlen {r t N : Nat} {v : Int32} (hi : ic_isQ n r t N) (hv : Int32.ofNat N = v) (hd : decode M.2.1 pc = .ok (.arraylength, 1) ∧ pc + 1 = pc')
    (kk : ic_W l κ M X Z pc' L (.int v :: S) n ρ μ c0 s0) : ic_W l κ M X Z pc L (ic_rv κ.1 r :: S) n ρ μ c0 s0 := by
  obtain ⟨hd, rfl⟩ := hd
  obtain ⟨a, rfl, ha, ⟨rfl, hs⟩ | ⟨rfl, hs⟩⟩ := hi
  · intro p e s m args below meth c C0 hX hK hB ls H locs hl hP hS
    exact va_alen (D := κ.2.1) C0.1 C0.2.1 hK hP.1 a 2 (by rw [ic_wd_at ha, ic_en3 hs]) rfl hv hd (kk p e s m args below meth c C0 hX hK hB ls H locs hl hP hS)
  · intro p e s m args below meth c C0 hX hK hB ls H locs hl hP hS
    exact va_alen (D := κ.2.1) C0.1 C0.2.1 hK hP.1 a 3 (by rw [ic_wd_at ha, ic_en4 hs]) rfl hv hd (kk p e s m args below meth c C0 hX hK hB ls H locs hl hP hS)
theorem iw_qald {α : Type} {r t N q : Nat} {j : Int32} {T : Option α} {R : α} (hf : ic_ax N j T = some R) (hi : ic_isQ n r t N) (hq : ¬ (j < 0 ∨ N ≤ j.toNatClampNeg) → ρ r j.toNatClampNeg = q) (hd : decode M.2.1 pc = .ok (.aaload, 1) ∧ pc + 1 = pc')
    (kk : T = some R → ¬ (j < 0 ∨ N ≤ j.toNatClampNeg) → ic_W l κ M X Z pc' L (ic_rv κ.1 q :: S) n ρ μ c0 s0) : ic_W l κ M X Z pc L (.int j :: ic_rv κ.1 r :: S) n ρ μ c0 s0 := by
  obtain ⟨hd, rfl⟩ := hd
  by_cases hj : j < 0 ∨ N ≤ j.toNatClampNeg
  · rw [ic_ax, if_pos hj] at hf; cases hf
  · rw [ic_ax, if_neg hj] at hf
    obtain rfl := hq hj
    obtain ⟨a, rfl, ha, ⟨rfl, hs⟩ | ⟨rfl, hs⟩⟩ := hi
    · intro p e s m args below meth c C0 hX hK hB ls H locs hl hP hS
      refine va_aldq (D := κ.2.1) C0.1 C0.2.1 hK hP.1 a 2 (by rw [ic_wd_at ha, ic_en3 hs]) rfl hj hd ?_
      rw [ic_ro_rv]
      exact kk hf hj p e s m args below meth c C0 hX hK hB ls H locs hl hP hS
    · intro p e s m args below meth c C0 hX hK hB ls H locs hl hP hS
      refine va_aldq (D := κ.2.1) C0.1 C0.2.1 hK hP.1 a 3 (by rw [ic_wd_at ha, ic_en4 hs]) rfl hj hd ?_
      rw [ic_ro_rv]
      exact kk hf hj p e s m args below meth c C0 hX hK hB ls H locs hl hP hS
theorem iw_iast {α : Type} {r N : Nat} {j x : Int32} {T : ic_M → Option α} {R : α} (hf : ic_as μ r N j x T = some R) (hi : ¬ (j < 0 ∨ N ≤ j.toNatClampNeg) → ic_isI n r N) (hd : decode M.2.1 pc = .ok (.iastore, 1) ∧ pc + 1 = pc')
    (kk : ∀ μ', T μ' = some R → ic_W l κ M X Z pc' L S n ρ μ' c0 s0) : ic_W l κ M X Z pc L (.int x :: .int j :: ic_rv κ.1 r :: S) n ρ μ c0 s0 := by
  obtain ⟨hd, rfl⟩ := hd
  by_cases hj : j < 0 ∨ N ≤ j.toNatClampNeg
  · rw [ic_as, if_pos hj] at hf; cases hf
  · rw [ic_as, if_neg hj] at hf
    obtain ⟨a, rfl, ha, hs⟩ := hi hj
    intro p e s m args below meth c C0 hX hK hB ls H locs hl hP hS
    refine ic_tight fun d hc hz => va_iast C0.1 C0.2.1 hK hP.1 (ic_D κ n ρ μ) hS a 0 (by rw [ic_wd_at ha, ic_en1 hs]) rfl hj hd fun H1 locs1 hP1 _ hS1 => ?_
    rw [ic_set (ρ' := ρ) (μ' := ic_up μ (a + 1) j.toNatClampNeg x) (by rw [ic_en1 hs, ic_up_eq]) (fun b hb => ic_en_up_ne hb)] at hP1
    exact ic_loose hc fun up => kk _ hf p e s m args below meth c C0 hX hK hB ls H1 locs1 hl (ic_H_same ha hP.2 hz hP1 up) hS1
theorem iw_zast {α : Type} {r N : Nat} {j x : Int32} {T : ic_M → Option α} {R : α} (hf : ic_az μ r N j x T = some R) (hi : ic_isZ n r N) (hd : decode M.2.1 pc = .ok (.bastore, 1) ∧ pc + 1 = pc')
    (kk : ∀ μ', T μ' = some R → ic_W l κ M X Z pc' L S n ρ μ' c0 s0) : ic_W l κ M X Z pc L (.int x :: .int j :: ic_rv κ.1 r :: S) n ρ μ c0 s0 := by
  obtain ⟨hd, rfl⟩ := hd
  by_cases hj : j < 0 ∨ N ≤ j.toNatClampNeg
  · rw [ic_az, if_pos hj] at hf; cases hf
  · rw [ic_az, if_neg hj] at hf
    by_cases hx : x = 0 ∨ x = 1
    · rw [if_pos hx] at hf
      have hnar : vp_nar .boolean x = x := by rcases hx with rfl | rfl <;> decide
      obtain ⟨a, rfl, ha, hs⟩ := hi
      intro p e s m args below meth c C0 hX hK hB ls H locs hl hP hS
      refine ic_tight fun d hc hz => va_zast C0.1 C0.2.1 hK hP.1 (ic_D κ n ρ μ) hS a 1 (by rw [ic_wd_at ha, ic_en2 hs]) rfl hj hd fun H1 locs1 hP1 _ hS1 => ?_
      rw [hnar, ic_set (ρ' := ρ) (μ' := ic_up μ (a + 1) j.toNatClampNeg x) (by rw [ic_en2 hs, ic_up_eq]) (fun b hb => ic_en_up_ne hb)] at hP1
      exact ic_loose hc fun up => kk _ hf p e s m args below meth c C0 hX hK hB ls H1 locs1 hl (ic_H_same ha hP.2 hz hP1 up) hS1
    · rw [if_neg hx] at hf; cases hf
/-! answers -/
theorem ic_end {p : Program} {e : Env} {s t : State} {H : Heap} {locs : List Loc} {o : Outcome} {v : Option Value} {args : Array Value} (ho : o = .returned v) (hK : ic_KK κ s) (hP : ic_H κ n ρ μ H) (hS : va_S (ic_A κ) s.heap H locs) (ht : t.heap = H) (hW : s.WarmedH t.vm) : ic_Qc κ v n ρ μ args s o t := ⟨⟨ho, by rw [ht]; exact hP, va_K.moved hW.alike hK⟩, hS.F ht⟩
theorem iw_ireturn {x v : Int32} {ρ1 : ic_R} {μ1 : ic_M} (hx : x = v) (hr : ρ = ρ1) (hm : μ = μ1) (hd : decode M.2.1 pc = .ok (.ireturn, 1) ∧ M.2.2.2.1 = some .int ∧ c0 = M.2.2.2.2.cells ∧ s0 = M.2.2.2.2.slots) : ic_W l κ M X (ic_Z κ M (some (.int v)) n ρ1 μ1) pc L [.int x] n ρ μ c0 s0 := by
  obtain ⟨hd, hrt, rfl, rfl⟩ := hd
  subst hx; subst hr; subst hm
  intro p e s m args below meth c C0 hX hK hB ls H locs hl hP hS
  exact W.iret C0.1 C0.2.1 (C0.2.2.1.trans hrt) (fun t ht hW => ic_end (p := p) (e := e) rfl hK hP hS ht hW) hS.2.2 hd C0.2.2.2.1
theorem ic_rz_of {α : Type} {x : Int32} {T : Option α} {R : α} (h : ic_rz x T = some R) : (x = 0 ∨ x = 1) ∧ T = some R := by
  by_cases hx : x = 0 ∨ x = 1
  · rw [ic_rz, if_pos hx] at h
    exact ⟨hx, h⟩
  · rw [ic_rz, if_neg hx] at h; cases h
theorem iw_zreturn {x v : Int32} {ρ1 : ic_R} {μ1 : ic_M} (hb : x = 0 ∨ x = 1) (hx : x = v) (hr : ρ = ρ1) (hm : μ = μ1) (hd : decode M.2.1 pc = .ok (.ireturn, 1) ∧ M.2.2.2.1 = some .boolean ∧ c0 = M.2.2.2.2.cells ∧ s0 = M.2.2.2.2.slots) : ic_W l κ M X (ic_Z κ M (some (.int v)) n ρ1 μ1) pc L [.int x] n ρ μ c0 s0 := by
  obtain ⟨hd, hrt, rfl, rfl⟩ := hd
  subst hx; subst hr; subst hm
  have hn : narrow .boolean (.int x) = .int x := by rcases hb with rfl | rfl <;> rfl
  intro p e s m args below meth c C0 hX hK hB ls H locs hl hP hS
  exact W.zret C0.1 C0.2.1 (C0.2.2.1.trans hrt) hn (fun t ht hW => ic_end (p := p) (e := e) rfl hK hP hS ht hW) hS.2.2 hd C0.2.2.2.1
theorem iw_vreturn {ρ1 : ic_R} {μ1 : ic_M} (hr : ρ = ρ1) (hm : μ = μ1) (hd : decode M.2.1 pc = .ok (.return_, 1) ∧ M.2.2.2.1 = none ∧ c0 = M.2.2.2.2.cells ∧ s0 = M.2.2.2.2.slots) : ic_W l κ M X (ic_Z κ M none n ρ1 μ1) pc L [] n ρ μ c0 s0 := by
  obtain ⟨hd, hrt, rfl, rfl⟩ := hd
  subst hr; subst hm
  intro p e s m args below meth c C0 hX hK hB ls H locs hl hP hS
  exact W.vret C0.1 C0.2.1 (C0.2.2.1.trans hrt) (fun t ht hW => ic_end (p := p) (e := e) rfl hK hP hS ht hW) hS.2.2 hd C0.2.2.2.1
theorem iw_areturn {r v : Nat} {C : String} {ρ1 : ic_R} {μ1 : ic_M} (hx : r = v) (hr : ρ = ρ1) (hm : μ = μ1) (hd : decode M.2.1 pc = .ok (.areturn, 1) ∧ M.2.2.2.1 = some (.object C) ∧ c0 = M.2.2.2.2.cells ∧ s0 = M.2.2.2.2.slots) : ic_W l κ M X (ic_Z κ M (some (ic_rv κ.1 v)) n ρ1 μ1) pc L [ic_rv κ.1 r] n ρ μ c0 s0 := by
  obtain ⟨hd, hrt, rfl, rfl⟩ := hd
  subst hx; subst hr; subst hm
  intro p e s m args below meth c C0 hX hK hB ls H locs hl hP hS
  exact W.aret C0.1 C0.2.1 (C0.2.2.1.trans hrt) (Or.inl ⟨C, rfl⟩) (by cases r with | zero => exact Or.inl rfl | succ a => exact Or.inr ⟨_, rfl⟩) (fun t ht hW => ic_end (p := p) (e := e) rfl hK hP hS ht hW) hS.2.2 hd C0.2.2.2.1
/-! calls -/
/-- a call that leaves vo on the stack, as one that leaves nothing on a stack that has vo already -/
theorem ic_flat {p : Program} {e : Env} {R : Room} {s : State} {m : MethodId} {args a : Array Value} {below : List Frame} {meth : Method} {c : Code} {H : Heap} {locs : List Loc} {rest : List Value} {vo : Option Value} {n1 mc ms : Nat} {ρ1 : ic_R} {μ1 : ic_M} {g : JFrame}
    (hr : va_Run p l e R s m args below meth c H locs c0 s0 mc ms g rest (ic_Qc κ vo n1 ρ1 μ1 a) (ic_A κ)) :
    va_Run p l e R s m args below meth c H locs c0 s0 mc ms g (vo.toList ++ rest) (va_Qv (fun _ : Unit => True) (fun _ t => ic_H κ n1 ρ1 μ1 t.heap) (ic_A κ) a) (ic_A κ) := fun T hT Y => by
  obtain ⟨w, b, d, U, J, i1, i2, i3, i4, i5, i6, i7⟩ := hr T hT Y
  obtain rfl : w = vo := Outcome.returned.inj i6.1.1
  exact ⟨none, b, d, U, J, i1, i2, i3, i4, i5, ⟨⟨(), rfl, trivial, i6.1.2.1⟩, i6.2⟩, i7⟩
theorem ic_after {p : Program} {e : Env} {R : Room} {s : State} {m : MethodId} {args a : Array Value} {below : List Frame} {meth : Method} {c : Code} {H : Heap} {locs : List Loc} {Q : State → Prop} {ls : Array Slot} {st0 rest : List Value} {vo : Option Value} {n1 mc ms : Nat} {ρ1 : ic_R} {μ1 : ic_M}
    (hr : va_Run p l e R s m args below meth c H locs c0 s0 mc ms (F0 m pc ls st0) rest (ic_Qc κ vo n1 ρ1 μ1 a) (ic_A κ)) (hS : va_S (ic_A κ) s.heap H locs)
    (kk : ∀ (H1 : Heap) (locs1 : List Loc), ic_H κ n1 ρ1 μ1 H1 → va_S (ic_A κ) s.heap H1 locs1 → W p l e R s m args below meth c H1 locs1 (c0 + mc) (s0 + ms) Q (F0 m (pc + 3) ls (vo.toList ++ rest))) : W p l e R s m args below meth c H locs c0 s0 Q (F0 m pc ls st0) :=
  va_callv (ic_flat hr) hS (fun _ _ h => h) (fun _ h => h) fun _ d H1 locs1 hd _ _ hB _ _ hS1 => kk H1 locs1 (hd ▸ hB) hS1
theorem ic_blind {av : List Value} : FrameBlind (ic_Pc κ av n ρ μ) := fun a U g mk q => ⟨q.1, q.2.1, va_K.moved (u := U) (U := U.calling g mk a) (Vm.Alike.refl U.vm) q.2.2⟩
/-- what the tables say of a method that is called on an object -/
def ic_MV (y : ic_Md) : Prop := Cond.instanceMethod y.1 ∈ ic_tb ∧ Cond.selects y.1.cls y.1 y.1 ∈ ic_tb ∧ Cond.initialized y.1.cls ∈ ic_tb ∧ Cond.code y.1 y.2.1 y.2.2.1 y.2.2.2.1 ∈ ic_tb ∧ (y.1.cls ≠ "java/lang/invoke/MethodHandle" ∧ y.1.cls ≠ "java/lang/invoke/VarHandle")
def ic_MS (y : ic_Md) : Prop := Cond.static y.1 ∈ ic_tb ∧ Cond.initialized y.1.cls ∈ ic_tb ∧ Cond.code y.1 y.2.1 y.2.2.1 y.2.2.2.1 ∈ ic_tb ∧ (y.1.cls ≠ "java/lang/invoke/MethodHandle" ∧ y.1.cls ≠ "java/lang/invoke/VarHandle")
def ic_MI (y : ic_Md) : Prop := Cond.instanceMethod y.1 ∈ ic_tb ∧ Cond.initialized y.1.cls ∈ ic_tb ∧ Cond.code y.1 y.2.1 y.2.2.1 y.2.2.2.1 ∈ ic_tb ∧ (y.1.cls ≠ "java/lang/invoke/MethodHandle" ∧ y.1.cls ≠ "java/lang/invoke/VarHandle") ∧ y.1.name = "<init>" ∧ y.2.2.2.1 = none
theorem ic_wsW {y : ic_Md} {args : Array Value} {s : State} (hts : ∀ w ∈ ic_tb, w.before args s = true) (hc : Cond.code y.1 y.2.1 y.2.2.1 y.2.2.2.1 ∈ ic_tb) : ∀ w ∈ ic_ws y, ∀ (a' : Array Value) (U : State), s.WarmedH U.vm → w.before a' U = true := by
  intro w hw
  rcases List.mem_cons.mp hw with rfl | hw
  · exact ic_warm hts _ hc
  · exact ic_warm hts w hw
theorem ic_sig {y : MethodName} {k : Nat} (h : (parseMethodDescriptor y.desc).map (fun d => d.parameters.length) = some k) : ∀ sig, parseMethodDescriptor y.desc = some sig → k = sig.parameters.length := by
  intro sig h2
  rw [h2] at h
  exact (Option.some.inj h).symm
/-- the rooms and the shape of a call's arguments, all decided -/
def ic_rm (M y : ic_Md) (k : Nat) : Prop := y.2.2.2.2.frames + 1 ≤ M.2.2.2.2.frames ∧ 8 + (y.2.2.1 + 11) + y.2.2.2.2.locals ≤ M.2.2.2.2.locals ∧ (parseMethodDescriptor y.1.desc).map (fun d => d.parameters.length) = some k
theorem iw_callV {y : ic_Md} {S1 : List Value} {c1 s1 : Nat} {r ci i k n1 : Nat} {q : vw_C} {As S0 st0 : List Value} {vo : Option Value} {ρ1 : ic_R} {μ1 : ic_M} (hC : ic_C l κ y (ic_rv κ.1 r :: As) n ρ μ vo n1 ρ1 μ1) (ho : ic_isO n r ci) (hq : ic_cls[ci]? = some q ∧ q.1 = y.1.cls) (hy : ic_MV y) (hw : Cond.methodLink M.1.cls i y.1 ∈ ic_tb) (hst : As.reverse ++ ic_rv κ.1 r :: S0 = st0 ∧ As.length = k) (hsum : (S0.map fun v => v.category).sum ≤ 8)
    (hd : decode M.2.1 pc = .ok (.invokevirtual i, 3) ∧ pc + 3 = pc' ∧ ic_rm M y k) (hroom : vo.toList ++ S0 = S1 ∧ c0 + y.2.2.2.2.cells = c1 ∧ s0 + y.2.2.2.2.slots = s1)
    (hr2 : c0 + y.2.2.2.2.cells ≤ M.2.2.2.2.cells ∧ s0 + y.2.2.2.2.slots ≤ M.2.2.2.2.slots) (kk : ic_W l κ M X Z pc' L S1 n1 ρ1 μ1 c1 s1) : ic_W l κ M X Z pc L st0 n ρ μ c0 s0 := by
  obtain ⟨hd, rfl, hfr, hlo, hsg⟩ := hd
  obtain ⟨rfl, hk⟩ := hst
  obtain ⟨rfl, rfl, rfl⟩ := hroom
  obtain ⟨a, rfl, ha, hs⟩ := ho
  obtain ⟨hy1, hy2, hy3, hy4, hy5⟩ := hy
  intro p e s m args below meth c C0 hX hK hB ls H locs hl hP hS
  obtain ⟨hx, hb, hr, hlk, hml, hown, hts, hnm⟩ := C0
  have hat : (ic_wd κ n ρ μ)[a]? = some (κ.1 + a, .inr (ci, (List.range (ic_nf ci)).map (ic_fv κ ρ μ a ci))) := by rw [ic_wd_at ha, ic_en0 hs]
  have hrec := va_recv hK hP.1 hq.1 hat
  rw [hq.2] at hrec
  refine ic_after (va_runV (As := As) (rest := S0) (Ts := ic_tb) ⟨hx, hb, hml, hown, hts⟩ hC ⟨⟨rfl, rfl, hfr, hlo, ic_wsW hts hy4, List.mem_cons_self, hts _ hy4, hts _ hy3, hy5, ic_sig hsg, hts _ hw⟩, hts _ hy1, hts _ hy2⟩ ⟨ic_blind, hrec, fun U hU hW => ⟨rfl, by rw [hU]; exact hP, va_K.moved hW.alike hK⟩⟩ rfl hk hl.1.1 rfl (lv_room hsum) hd hr2) hS (fun H1 locs1 hP1 hS1 => kk p e s m args below meth c ⟨hx, hb, hr, hlk, hml, hown, hts, hnm⟩ hX hK hB ls H1 locs1 hl hP1 hS1)
theorem iw_callVN {y : ic_Md} {S1 : List Value} {c1 s1 : Nat} {r ci i k n1 : Nat} {q : vw_C} {host : String} {As S0 st0 : List Value} {vo : Option Value} {ρ1 : ic_R} {μ1 : ic_M} (hC : ic_C l κ y (ic_rv κ.1 r :: As) n ρ μ vo n1 ρ1 μ1) (ho : ic_isO n r ci) (hq : ic_cls[ci]? = some q ∧ q.1 = y.1.cls) (hy : ic_MV y) (hw : Cond.methodLinkNest M.1.cls i y.1 host ∈ ic_tb) (hst : As.reverse ++ ic_rv κ.1 r :: S0 = st0 ∧ As.length = k) (hsum : (S0.map fun v => v.category).sum ≤ 8)
    (hd : decode M.2.1 pc = .ok (.invokevirtual i, 3) ∧ pc + 3 = pc' ∧ ic_rm M y k) (hroom : vo.toList ++ S0 = S1 ∧ c0 + y.2.2.2.2.cells = c1 ∧ s0 + y.2.2.2.2.slots = s1)
    (hr2 : c0 + y.2.2.2.2.cells ≤ M.2.2.2.2.cells ∧ s0 + y.2.2.2.2.slots ≤ M.2.2.2.2.slots) (kk : ic_W l κ M X Z pc' L S1 n1 ρ1 μ1 c1 s1) : ic_W l κ M X Z pc L st0 n ρ μ c0 s0 := by
  obtain ⟨hd, rfl, hfr, hlo, hsg⟩ := hd
  obtain ⟨rfl, hk⟩ := hst
  obtain ⟨rfl, rfl, rfl⟩ := hroom
  obtain ⟨a, rfl, ha, hs⟩ := ho
  obtain ⟨hy1, hy2, hy3, hy4, hy5⟩ := hy
  intro p e s m args below meth c C0 hX hK hB ls H locs hl hP hS
  obtain ⟨hx, hb, hr, hlk, hml, hown, hts, hnm⟩ := C0
  have hat : (ic_wd κ n ρ μ)[a]? = some (κ.1 + a, .inr (ci, (List.range (ic_nf ci)).map (ic_fv κ ρ μ a ci))) := by rw [ic_wd_at ha, ic_en0 hs]
  have hrec := va_recv hK hP.1 hq.1 hat
  rw [hq.2] at hrec
  refine ic_after (va_runVN (As := As) (rest := S0) (Ts := ic_tb) ⟨hx, hb, hml, hown, hts⟩ hC ⟨⟨⟨rfl, rfl, hfr, hlo, ic_wsW hts hy4, List.mem_cons_self⟩, hts _ hy4, hts _ hy3, hy5, ic_sig hsg, hts _ hw⟩, hts _ hy1, hts _ hy2⟩ ⟨ic_blind, hrec, fun U hU hW => ⟨rfl, by rw [hU]; exact hP, va_K.moved hW.alike hK⟩⟩ rfl hk hl.1.1 rfl (lv_room hsum) hd hr2) hS (fun H1 locs1 hP1 hS1 => kk p e s m args below meth c ⟨hx, hb, hr, hlk, hml, hown, hts, hnm⟩ hX hK hB ls H1 locs1 hl hP1 hS1)
theorem iw_callS {y : ic_Md} {S1 : List Value} {c1 s1 : Nat} {i k n1 : Nat} {As S0 st0 : List Value} {vo : Option Value} {ρ1 : ic_R} {μ1 : ic_M} (hC : ic_C l κ y As n ρ μ vo n1 ρ1 μ1) (hy : ic_MS y) (hw : Cond.methodLink M.1.cls i y.1 ∈ ic_tb) (hst : As.reverse ++ S0 = st0 ∧ As.length = k) (hsum : (S0.map fun v => v.category).sum ≤ 8)
    (hd : decode M.2.1 pc = .ok (.invokestatic i, 3) ∧ pc + 3 = pc' ∧ ic_rm M y k) (hroom : vo.toList ++ S0 = S1 ∧ c0 + y.2.2.2.2.cells = c1 ∧ s0 + y.2.2.2.2.slots = s1)
    (hr2 : c0 + y.2.2.2.2.cells ≤ M.2.2.2.2.cells ∧ s0 + y.2.2.2.2.slots ≤ M.2.2.2.2.slots) (kk : ic_W l κ M X Z pc' L S1 n1 ρ1 μ1 c1 s1) : ic_W l κ M X Z pc L st0 n ρ μ c0 s0 := by
  obtain ⟨hd, rfl, hfr, hlo, hsg⟩ := hd
  obtain ⟨rfl, hk⟩ := hst
  obtain ⟨rfl, rfl, rfl⟩ := hroom
  obtain ⟨hy2, hy3, hy4, hy5⟩ := hy
  intro p e s m args below meth c C0 hX hK hB ls H locs hl hP hS
  obtain ⟨hx, hb, hr, hlk, hml, hown, hts, hnm⟩ := C0
  refine ic_after (va_runS (As := As) (rest := S0) (Ts := ic_tb) ⟨hx, hb, hml, hown, hts⟩ hC ⟨⟨rfl, rfl, hfr, hlo, ic_wsW hts hy4, List.mem_cons_self, hts _ hy4, hts _ hy3, hy5, ic_sig hsg, hts _ hw⟩, hts _ hy2⟩ ⟨ic_blind, fun U hU hW => ⟨rfl, by rw [hU]; exact hP, va_K.moved hW.alike hK⟩⟩ rfl hk hl.1.1 rfl (lv_room hsum) hd hr2) hS (fun H1 locs1 hP1 hS1 => kk p e s m args below meth c ⟨hx, hb, hr, hlk, hml, hown, hts, hnm⟩ hX hK hB ls H1 locs1 hl hP1 hS1)
theorem iw_callSN {y : ic_Md} {S1 : List Value} {c1 s1 : Nat} {i k n1 : Nat} {host : String} {As S0 st0 : List Value} {vo : Option Value} {ρ1 : ic_R} {μ1 : ic_M} (hC : ic_C l κ y As n ρ μ vo n1 ρ1 μ1) (hy : ic_MS y) (hw : Cond.methodLinkNest M.1.cls i y.1 host ∈ ic_tb) (hst : As.reverse ++ S0 = st0 ∧ As.length = k) (hsum : (S0.map fun v => v.category).sum ≤ 8)
    (hd : decode M.2.1 pc = .ok (.invokestatic i, 3) ∧ pc + 3 = pc' ∧ ic_rm M y k) (hroom : vo.toList ++ S0 = S1 ∧ c0 + y.2.2.2.2.cells = c1 ∧ s0 + y.2.2.2.2.slots = s1)
    (hr2 : c0 + y.2.2.2.2.cells ≤ M.2.2.2.2.cells ∧ s0 + y.2.2.2.2.slots ≤ M.2.2.2.2.slots) (kk : ic_W l κ M X Z pc' L S1 n1 ρ1 μ1 c1 s1) : ic_W l κ M X Z pc L st0 n ρ μ c0 s0 := by
  obtain ⟨hd, rfl, hfr, hlo, hsg⟩ := hd
  obtain ⟨rfl, hk⟩ := hst
  obtain ⟨rfl, rfl, rfl⟩ := hroom
  obtain ⟨hy2, hy3, hy4, hy5⟩ := hy
  intro p e s m args below meth c C0 hX hK hB ls H locs hl hP hS
  obtain ⟨hx, hb, hr, hlk, hml, hown, hts, hnm⟩ := C0
  refine ic_after (va_runSN (As := As) (rest := S0) (Ts := ic_tb) ⟨hx, hb, hml, hown, hts⟩ hC ⟨⟨⟨rfl, rfl, hfr, hlo, ic_wsW hts hy4, List.mem_cons_self⟩, hts _ hy4, hts _ hy3, hy5, ic_sig hsg, hts _ hw⟩, hts _ hy2, trivial⟩ ⟨ic_blind, fun U hU hW => ⟨rfl, by rw [hU]; exact hP, va_K.moved hW.alike hK⟩⟩ rfl hk hl.1.1 rfl (lv_room hsum) hd hr2) hS (fun H1 locs1 hP1 hS1 => kk p e s m args below meth c ⟨hx, hb, hr, hlk, hml, hown, hts, hnm⟩ hX hK hB ls H1 locs1 hl hP1 hS1)
theorem iw_mmax {x y : Int32} {i : Nat} (hw : Cond.methodLink M.1.cls i Lib.Math.max.name ∈ ic_tb) (hsum : (S.map fun v => v.category).sum ≤ 8) (hd : decode M.2.1 pc = .ok (.invokestatic i, 3) ∧ pc + 3 = pc' ∧ 1 ≤ M.2.2.2.2.frames ∧ 21 ≤ M.2.2.2.2.locals ∧ c0 ≤ M.2.2.2.2.cells ∧ s0 ≤ M.2.2.2.2.slots) (k : ic_W l κ M X Z pc' L (.int (if x < y then y else x) :: S) n ρ μ c0 s0) : ic_W l κ M X Z pc L (.int y :: .int x :: S) n ρ μ c0 s0 := by
  obtain ⟨hd, rfl, h1, h2, h3, h4⟩ := hd
  intro p e s m args below meth c C0 hX hK hB ls H locs hl hP hS
  obtain ⟨hx, hb, hr, hlk, hml, hown, hts, hnm⟩ := id C0
  exact va_mmax hx hb (hml.trans hl.1.1.symm) hown (hts _ hw) (hts _ (ic_in 575 (by decide +kernel))) (hts _ (ic_in 81 (by decide +kernel))) (hts _ (ic_in 576 (by decide +kernel))) h1 (by omega) h3 h4 hd (k p e s m args below meth c C0 hX hK hB ls H locs hl hP hS)
theorem iw_mmin {x y : Int32} {i : Nat} (hw : Cond.methodLink M.1.cls i Lib.Math.min.name ∈ ic_tb) (hsum : (S.map fun v => v.category).sum ≤ 8) (hd : decode M.2.1 pc = .ok (.invokestatic i, 3) ∧ pc + 3 = pc' ∧ 1 ≤ M.2.2.2.2.frames ∧ 21 ≤ M.2.2.2.2.locals ∧ c0 ≤ M.2.2.2.2.cells ∧ s0 ≤ M.2.2.2.2.slots) (k : ic_W l κ M X Z pc' L (.int (if y < x then y else x) :: S) n ρ μ c0 s0) : ic_W l κ M X Z pc L (.int y :: .int x :: S) n ρ μ c0 s0 := by
  obtain ⟨hd, rfl, h1, h2, h3, h4⟩ := hd
  intro p e s m args below meth c C0 hX hK hB ls H locs hl hP hS
  obtain ⟨hx, hb, hr, hlk, hml, hown, hts, hnm⟩ := id C0
  exact va_mmin hx hb (hml.trans hl.1.1.symm) hown (hts _ hw) (hts _ (ic_in 558 (by decide +kernel))) (hts _ (ic_in 81 (by decide +kernel))) (hts _ (ic_in 559 (by decide +kernel))) h1 (by omega) h3 h4 hd (k p e s m args below meth c C0 hX hK hB ls H locs hl hP hS)
theorem ic_q1 {α β : Type} {x : α} {m : β} {R : α × β} (h : (x, m) = R) : x = R.1 := by rw [← h]
theorem ic_q2 {α β : Type} {x : α} {m : β} {R : α × β} (h : (x, m) = R) : m = R.2 := by rw [← h]
theorem ic_sum1 : ∀ {l : List Value}, ic_c1 l → (l.map fun v => v.category).sum = l.length
  | [], _ => rfl
  | v :: t, h => by
    simp only [List.map_cons, List.sum_cons, List.length_cons, h.1, ic_sum1 h.2]
    omega
theorem ic_sum8 {l : List Value} (h : ic_c1 l) (hl : l.length ≤ 8) : (l.map fun v => v.category).sum ≤ 8 := by
  rw [ic_sum1 h]; exact hl
end ICH
