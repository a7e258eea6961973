/-! ===== one rule an instruction ===== -/
/-- a value with a name -/
def ic_lt {α : Type} (x : Int32) (T : Int32 → Option α) : Option α := T x
/-- an int of memory put, the memory with a name -/
def ic_pu {α : Type} (μ : ic_M) (r k : Nat) (v : Int32) (T : ic_M → Option α) : Option α := T (ic_up μ r k v)
section ICR
variable {l : Launch} {κ : ic_K} {M : ic_Md} {X : State → Array Value → Prop} {Z : State → List Frame → Array Value → State → Prop} {pc pc' : Nat} {L L' : List (Nat × Value)} {S : List Value} {n : Nat} {ρ : ic_R} {μ : ic_M} {c0 s0 : Nat}
theorem iw_iconst {i : Int} {v : Int32} (hd : decode M.2.1 pc = .ok (.iconst i, 1) ∧ pc + 1 = pc' ∧ Int32.ofInt i = v) (k : ic_W l κ M X Z pc' L (.int v :: S) n ρ μ c0 s0) : ic_W l κ M X Z pc L S n ρ μ c0 s0 := by
  obtain ⟨hd, rfl, hv⟩ := hd
  intro p e s m args below meth c C hX hK hB ls H locs hl hP hS
  exact lv_iconst C.1 C.2.1 hd hv (k p e s m args below meth c C hX hK hB ls H locs hl hP hS)
theorem iw_bipush {i : Int} {v : Int32} (hd : decode M.2.1 pc = .ok (.bipush i, 2) ∧ pc + 2 = pc' ∧ (Int8.ofInt i).toInt32 = v) (k : ic_W l κ M X Z pc' L (.int v :: S) n ρ μ c0 s0) : ic_W l κ M X Z pc L S n ρ μ c0 s0 := by
  obtain ⟨hd, rfl, hv⟩ := hd
  intro p e s m args below meth c C hX hK hB ls H locs hl hP hS
  exact lv_bipush C.1 C.2.1 hd hv (k p e s m args below meth c C hX hK hB ls H locs hl hP hS)
theorem iw_sipush {i : Int} {v : Int32} (hd : decode M.2.1 pc = .ok (.sipush i, 3) ∧ pc + 3 = pc' ∧ (Int16.ofInt i).toInt32 = v) (k : ic_W l κ M X Z pc' L (.int v :: S) n ρ μ c0 s0) : ic_W l κ M X Z pc L S n ρ μ c0 s0 := by
  obtain ⟨hd, rfl, hv⟩ := hd
  intro p e s m args below meth c C hX hK hB ls H locs hl hP hS
  exact lv_sipush C.1 C.2.1 hd hv (k p e s m args below meth c C hX hK hB ls H locs hl hP hS)
theorem iw_ldc {i : Nat} {v : Int32} (hw : Cond.constant M.1.cls i v ∈ ic_tb) (hd : decode M.2.1 pc = .ok (.ldc i, 2) ∧ pc + 2 = pc') (k : ic_W l κ M X Z pc' L (.int v :: S) n ρ μ c0 s0) : ic_W l κ M X Z pc L S n ρ μ c0 s0 := by
  obtain ⟨hd, rfl⟩ := hd
  intro p e s m args below meth c C hX hK hB ls H locs hl hP hS
  exact lv_ldc C.1 C.2.1 C.2.2.2.2.2.1 (C.2.2.2.2.2.2.1 _ hw) hd (k p e s m args below meth c C hX hK hB ls H locs hl hP hS)
theorem iw_ldc_w {i : Nat} {v : Int32} (hw : Cond.constant M.1.cls i v ∈ ic_tb) (hd : decode M.2.1 pc = .ok (.ldc_w i, 3) ∧ pc + 3 = pc') (k : ic_W l κ M X Z pc' L (.int v :: S) n ρ μ c0 s0) : ic_W l κ M X Z pc L S n ρ μ c0 s0 := by
  obtain ⟨hd, rfl⟩ := hd
  intro p e s m args below meth c C hX hK hB ls H locs hl hP hS
  exact lv_ldcw C.1 C.2.1 C.2.2.2.2.2.1 (C.2.2.2.2.2.2.1 _ hw) hd (k p e s m args below meth c C hX hK hB ls H locs hl hP hS)
theorem iw_ldc2 {i : Nat} {v : Int64} (hw : Cond.constantLong M.1.cls i v ∈ ic_tb) (hd : decode M.2.1 pc = .ok (.ldc2_w i, 3) ∧ pc + 3 = pc') (k : ic_W l κ M X Z pc' L (.long v :: S) n ρ μ c0 s0) : ic_W l κ M X Z pc L S n ρ μ c0 s0 := by
  obtain ⟨hd, rfl⟩ := hd
  intro p e s m args below meth c C hX hK hB ls H locs hl hP hS
  exact lv_ldc2 C.1 C.2.1 C.2.2.2.2.2.1 (C.2.2.2.2.2.2.1 _ hw) hd (k p e s m args below meth c C hX hK hB ls H locs hl hP hS)
theorem iw_iload_n {i : Fin 4} {x : Int32} (j : Nat) (hj : L[j]? = some ((i : Nat), .int x)) (hd : decode M.2.1 pc = .ok (.iload_n i, 1) ∧ pc + 1 = pc') (k : ic_W l κ M X Z pc' L (.int x :: S) n ρ μ c0 s0) : ic_W l κ M X Z pc L S n ρ μ c0 s0 := by
  obtain ⟨hd, rfl⟩ := hd
  intro p e s m args below meth c C hX hK hB ls H locs hl hP hS
  exact lv_iload_n C.1 C.2.1 hd rfl (lv_at hl.1 j hj) (k p e s m args below meth c C hX hK hB ls H locs hl hP hS)
theorem iw_iload {i : Nat} {x : Int32} (j : Nat) (hj : L[j]? = some (i, .int x)) (hd : decode M.2.1 pc = .ok (.iload i, 2) ∧ pc + 2 = pc') (k : ic_W l κ M X Z pc' L (.int x :: S) n ρ μ c0 s0) : ic_W l κ M X Z pc L S n ρ μ c0 s0 := by
  obtain ⟨hd, rfl⟩ := hd
  intro p e s m args below meth c C hX hK hB ls H locs hl hP hS
  exact lv_iload C.1 C.2.1 hd (lv_at hl.1 j hj) (k p e s m args below meth c C hX hK hB ls H locs hl hP hS)
theorem iw_aload_n {i : Fin 4} {r : Nat} (j : Nat) (hj : L[j]? = some ((i : Nat), ic_rv κ.1 r)) (hd : decode M.2.1 pc = .ok (.aload_n i, 1) ∧ pc + 1 = pc') (k : ic_W l κ M X Z pc' L (ic_rv κ.1 r :: S) n ρ μ c0 s0) : ic_W l κ M X Z pc L S n ρ μ c0 s0 := by
  obtain ⟨hd, rfl⟩ := hd
  intro p e s m args below meth c C hX hK hB ls H locs hl hP hS
  have k := k p e s m args below meth c C hX hK hB ls H locs hl hP hS
  have hj := lv_at hl.1 j hj
  cases r with
  | zero => exact lv_aload_nN C.1 C.2.1 hd rfl hj k
  | succ a => exact lv_aload_n C.1 C.2.1 hd rfl hj k
theorem iw_aload {i : Nat} {r : Nat} (j : Nat) (hj : L[j]? = some (i, ic_rv κ.1 r)) (hd : decode M.2.1 pc = .ok (.aload i, 2) ∧ pc + 2 = pc') (k : ic_W l κ M X Z pc' L (ic_rv κ.1 r :: S) n ρ μ c0 s0) : ic_W l κ M X Z pc L S n ρ μ c0 s0 := by
  obtain ⟨hd, rfl⟩ := hd
  intro p e s m args below meth c C hX hK hB ls H locs hl hP hS
  have k := k p e s m args below meth c C hX hK hB ls H locs hl hP hS
  have hj := lv_at hl.1 j hj
  cases r with
  | zero => exact lv_aloadN C.1 C.2.1 hd hj k
  | succ a => exact lv_aload C.1 C.2.1 hd hj k
theorem iw_istore_n {i : Fin 4} {α : Type} {x : Int32} {T : Int32 → Option α} {R : α} {L1 : Int32 → List (Nat × Value)} (hf : ic_lt x T = some R) (hL : ∀ y, ic_st L (i : Nat) (.int y) = L1 y) (hd : decode M.2.1 pc = .ok (.istore_n i, 1) ∧ pc + 1 = pc' ∧ (i : Nat) < M.2.2.1) (k : ∀ y, T y = some R → ic_W l κ M X Z pc' (L1 y) S n ρ μ c0 s0) : ic_W l κ M X Z pc L (.int x :: S) n ρ μ c0 s0 := by
  obtain ⟨hd, rfl, hi⟩ := hd
  intro p e s m args below meth c C hX hK hB ls H locs hl hP hS
  exact lv_istore_n C.1 C.2.1 hd rfl hl.1 hi rfl (fun ls' hl' => k x hf p e s m args below meth c C hX hK hB ls' H locs (hL _ ▸ hl.st rfl hl') hP hS)
theorem iw_istore_n0 {i : Fin 4} {x : Int32} (hL : ic_st L (i : Nat) (.int x) = L') (hd : decode M.2.1 pc = .ok (.istore_n i, 1) ∧ pc + 1 = pc' ∧ (i : Nat) < M.2.2.1) (k : ic_W l κ M X Z pc' L' S n ρ μ c0 s0) : ic_W l κ M X Z pc L (.int x :: S) n ρ μ c0 s0 := by
  obtain ⟨hd, rfl, hi⟩ := hd
  intro p e s m args below meth c C hX hK hB ls H locs hl hP hS
  exact lv_istore_n C.1 C.2.1 hd rfl hl.1 hi rfl (fun ls' hl' => k p e s m args below meth c C hX hK hB ls' H locs (hL ▸ hl.st rfl hl') hP hS)
theorem iw_istore {i : Nat} {α : Type} {x : Int32} {T : Int32 → Option α} {R : α} {L1 : Int32 → List (Nat × Value)} (hf : ic_lt x T = some R) (hL : ∀ y, ic_st L i (.int y) = L1 y) (hd : decode M.2.1 pc = .ok (.istore i, 2) ∧ pc + 2 = pc' ∧ i < M.2.2.1) (k : ∀ y, T y = some R → ic_W l κ M X Z pc' (L1 y) S n ρ μ c0 s0) : ic_W l κ M X Z pc L (.int x :: S) n ρ μ c0 s0 := by
  obtain ⟨hd, rfl, hi⟩ := hd
  intro p e s m args below meth c C hX hK hB ls H locs hl hP hS
  exact lv_istore C.1 C.2.1 hd hl.1 hi rfl (fun ls' hl' => k x hf p e s m args below meth c C hX hK hB ls' H locs (hL _ ▸ hl.st rfl hl') hP hS)
theorem iw_istore0 {i : Nat} {x : Int32} (hL : ic_st L i (.int x) = L') (hd : decode M.2.1 pc = .ok (.istore i, 2) ∧ pc + 2 = pc' ∧ i < M.2.2.1) (k : ic_W l κ M X Z pc' L' S n ρ μ c0 s0) : ic_W l κ M X Z pc L (.int x :: S) n ρ μ c0 s0 := by
  obtain ⟨hd, rfl, hi⟩ := hd
  intro p e s m args below meth c C hX hK hB ls H locs hl hP hS
  exact lv_istore C.1 C.2.1 hd hl.1 hi rfl (fun ls' hl' => k p e s m args below meth c C hX hK hB ls' H locs (hL ▸ hl.st rfl hl') hP hS)
theorem ic_cat (B r : Nat) : (ic_rv B r).category = 1 := by cases r <;> rfl
theorem iw_astore_n {i : Fin 4} {r : Nat} (hL : ic_st L (i : Nat) (ic_rv κ.1 r) = L') (hd : decode M.2.1 pc = .ok (.astore_n i, 1) ∧ pc + 1 = pc' ∧ (i : Nat) < M.2.2.1) (k : ic_W l κ M X Z pc' L' S n ρ μ c0 s0) : ic_W l κ M X Z pc L (ic_rv κ.1 r :: S) n ρ μ c0 s0 := by
  obtain ⟨hd, rfl, hi⟩ := hd
  intro p e s m args below meth c C hX hK hB ls H locs hl hP hS
  cases r with
  | zero => exact lv_astore_nN C.1 C.2.1 hd rfl hl.1 hi rfl (fun ls' hl' => k p e s m args below meth c C hX hK hB ls' H locs (hL ▸ hl.st rfl hl') hP hS)
  | succ a => exact lv_astore_n C.1 C.2.1 hd rfl hl.1 hi rfl (fun ls' hl' => k p e s m args below meth c C hX hK hB ls' H locs (hL ▸ hl.st rfl hl') hP hS)
theorem iw_iinc {i : Nat} {d : Int} {x v : Int32} {α : Type} {T : Int32 → Option α} {R : α} {L1 : Int32 → List (Nat × Value)} (hf : ic_lt (x + v) T = some R) (j : Nat) (hj : L[j]? = some (i, .int x)) (hL : ∀ y, ic_st L i (.int y) = L1 y) (hd : decode M.2.1 pc = .ok (.iinc i d, 3) ∧ pc + 3 = pc' ∧ i < M.2.2.1 ∧ Int32.ofInt d = v) (k : ∀ y, T y = some R → ic_W l κ M X Z pc' (L1 y) S n ρ μ c0 s0) : ic_W l κ M X Z pc L S n ρ μ c0 s0 := by
  obtain ⟨hd, rfl, hi, rfl⟩ := hd
  intro p e s m args below meth c C hX hK hB ls H locs hl hP hS
  exact lv_iinc C.1 C.2.1 hd hl.1 hj rfl hi rfl (fun ls' hl' => k _ hf p e s m args below meth c C hX hK hB ls' H locs (hL _ ▸ hl.st rfl hl') hP hS)
/-- the locals in another order, or fewer -/
theorem iw_sub (ks : List Nat) (h : lv_pick L ks = L') (k : ic_W l κ M X Z pc L' S n ρ μ c0 s0) : ic_W l κ M X Z pc L S n ρ μ c0 s0 := by
  intro p e s m args below meth c C hX hK hB ls H locs hl hP hS
  refine k p e s m args below meth c C hX hK hB ls H locs ⟨lv_sub hl.1 ks h, fun q hq => ?_⟩ hP hS
  rw [← h] at hq
  obtain ⟨j, -, hj⟩ := List.mem_filterMap.mp hq
  exact hl.2 q (List.mem_of_getElem? hj)
theorem iw_iadd {x y : Int32} (hd : decode M.2.1 pc = .ok (.iadd, 1) ∧ pc + 1 = pc') (k : ic_W l κ M X Z pc' L (.int (x + y) :: S) n ρ μ c0 s0) : ic_W l κ M X Z pc L (.int y :: .int x :: S) n ρ μ c0 s0 := by
  obtain ⟨hd, rfl⟩ := hd
  intro p e s m args below meth c C hX hK hB ls H locs hl hP hS
  exact lv_iadd C.1 C.2.1 hd (k p e s m args below meth c C hX hK hB ls H locs hl hP hS)
theorem iw_isub {x y : Int32} (hd : decode M.2.1 pc = .ok (.isub, 1) ∧ pc + 1 = pc') (k : ic_W l κ M X Z pc' L (.int (x - y) :: S) n ρ μ c0 s0) : ic_W l κ M X Z pc L (.int y :: .int x :: S) n ρ μ c0 s0 := by
  obtain ⟨hd, rfl⟩ := hd
  intro p e s m args below meth c C hX hK hB ls H locs hl hP hS
  exact lv_isub C.1 C.2.1 hd (k p e s m args below meth c C hX hK hB ls H locs hl hP hS)
theorem iw_imul {x y : Int32} (hd : decode M.2.1 pc = .ok (.imul, 1) ∧ pc + 1 = pc') (k : ic_W l κ M X Z pc' L (.int (x * y) :: S) n ρ μ c0 s0) : ic_W l κ M X Z pc L (.int y :: .int x :: S) n ρ μ c0 s0 := by
  obtain ⟨hd, rfl⟩ := hd
  intro p e s m args below meth c C hX hK hB ls H locs hl hP hS
  exact lv_imul C.1 C.2.1 hd (k p e s m args below meth c C hX hK hB ls H locs hl hP hS)
theorem iw_iand {x y : Int32} (hd : decode M.2.1 pc = .ok (.iand, 1) ∧ pc + 1 = pc') (k : ic_W l κ M X Z pc' L (.int (x &&& y) :: S) n ρ μ c0 s0) : ic_W l κ M X Z pc L (.int y :: .int x :: S) n ρ μ c0 s0 := by
  obtain ⟨hd, rfl⟩ := hd
  intro p e s m args below meth c C hX hK hB ls H locs hl hP hS
  exact lv_iand C.1 C.2.1 hd (k p e s m args below meth c C hX hK hB ls H locs hl hP hS)
theorem iw_ior {x y : Int32} (hd : decode M.2.1 pc = .ok (.ior, 1) ∧ pc + 1 = pc') (k : ic_W l κ M X Z pc' L (.int (x ||| y) :: S) n ρ μ c0 s0) : ic_W l κ M X Z pc L (.int y :: .int x :: S) n ρ μ c0 s0 := by
  obtain ⟨hd, rfl⟩ := hd
  intro p e s m args below meth c C hX hK hB ls H locs hl hP hS
  exact lv_ior C.1 C.2.1 hd (k p e s m args below meth c C hX hK hB ls H locs hl hP hS)
theorem iw_ixor {x y : Int32} (hd : decode M.2.1 pc = .ok (.ixor, 1) ∧ pc + 1 = pc') (k : ic_W l κ M X Z pc' L (.int (x ^^^ y) :: S) n ρ μ c0 s0) : ic_W l κ M X Z pc L (.int y :: .int x :: S) n ρ μ c0 s0 := by
  obtain ⟨hd, rfl⟩ := hd
  intro p e s m args below meth c C hX hK hB ls H locs hl hP hS
  exact lv_ixor C.1 C.2.1 hd (k p e s m args below meth c C hX hK hB ls H locs hl hP hS)
theorem iw_ishl {x y : Int32} (hd : decode M.2.1 pc = .ok (.ishl, 1) ∧ pc + 1 = pc') (k : ic_W l κ M X Z pc' L (.int (x <<< (y &&& 31)) :: S) n ρ μ c0 s0) : ic_W l κ M X Z pc L (.int y :: .int x :: S) n ρ μ c0 s0 := by
  obtain ⟨hd, rfl⟩ := hd
  intro p e s m args below meth c C hX hK hB ls H locs hl hP hS
  exact lv_ishl C.1 C.2.1 hd (k p e s m args below meth c C hX hK hB ls H locs hl hP hS)
theorem iw_ishr {x y : Int32} (hd : decode M.2.1 pc = .ok (.ishr, 1) ∧ pc + 1 = pc') (k : ic_W l κ M X Z pc' L (.int (x >>> (y &&& 31)) :: S) n ρ μ c0 s0) : ic_W l κ M X Z pc L (.int y :: .int x :: S) n ρ μ c0 s0 := by
  obtain ⟨hd, rfl⟩ := hd
  intro p e s m args below meth c C hX hK hB ls H locs hl hP hS
  exact lv_ishr C.1 C.2.1 hd (k p e s m args below meth c C hX hK hB ls H locs hl hP hS)
theorem iw_iushr {x y : Int32} (hd : decode M.2.1 pc = .ok (.iushr, 1) ∧ pc + 1 = pc') (k : ic_W l κ M X Z pc' L (.int (x.toUInt32 >>> (y.toUInt32 &&& Int32.toUInt32 31)).toInt32 :: S) n ρ μ c0 s0) : ic_W l κ M X Z pc L (.int y :: .int x :: S) n ρ μ c0 s0 := by
  obtain ⟨hd, rfl⟩ := hd
  intro p e s m args below meth c C hX hK hB ls H locs hl hP hS
  exact lv_iushr C.1 C.2.1 hd rfl (k p e s m args below meth c C hX hK hB ls H locs hl hP hS)
theorem iw_i2l {x : Int32} (hd : decode M.2.1 pc = .ok (.i2l, 1) ∧ pc + 1 = pc') (k : ic_W l κ M X Z pc' L (.long x.toInt64 :: S) n ρ μ c0 s0) : ic_W l κ M X Z pc L (.int x :: S) n ρ μ c0 s0 := by
  obtain ⟨hd, rfl⟩ := hd
  intro p e s m args below meth c C hX hK hB ls H locs hl hP hS
  exact lv_i2l C.1 C.2.1 hd rfl (k p e s m args below meth c C hX hK hB ls H locs hl hP hS)
theorem iw_l2i {x : Int64} (hd : decode M.2.1 pc = .ok (.l2i, 1) ∧ pc + 1 = pc') (k : ic_W l κ M X Z pc' L (.int x.toInt32 :: S) n ρ μ c0 s0) : ic_W l κ M X Z pc L (.long x :: S) n ρ μ c0 s0 := by
  obtain ⟨hd, rfl⟩ := hd
  intro p e s m args below meth c C hX hK hB ls H locs hl hP hS
  exact lv_l2i C.1 C.2.1 hd rfl (k p e s m args below meth c C hX hK hB ls H locs hl hP hS)
theorem iw_ladd {x y : Int64} (hd : decode M.2.1 pc = .ok (.ladd, 1) ∧ pc + 1 = pc') (k : ic_W l κ M X Z pc' L (.long (x + y) :: S) n ρ μ c0 s0) : ic_W l κ M X Z pc L (.long y :: .long x :: S) n ρ μ c0 s0 := by
  obtain ⟨hd, rfl⟩ := hd
  intro p e s m args below meth c C hX hK hB ls H locs hl hP hS
  exact lv_ladd C.1 C.2.1 hd (k p e s m args below meth c C hX hK hB ls H locs hl hP hS)
theorem iw_lmul {x y : Int64} (hd : decode M.2.1 pc = .ok (.lmul, 1) ∧ pc + 1 = pc') (k : ic_W l κ M X Z pc' L (.long (x * y) :: S) n ρ μ c0 s0) : ic_W l κ M X Z pc L (.long y :: .long x :: S) n ρ μ c0 s0 := by
  obtain ⟨hd, rfl⟩ := hd
  intro p e s m args below meth c C hX hK hB ls H locs hl hP hS
  exact lv_lmul C.1 C.2.1 hd (k p e s m args below meth c C hX hK hB ls H locs hl hP hS)
theorem iw_land {x y : Int64} (hd : decode M.2.1 pc = .ok (.land, 1) ∧ pc + 1 = pc') (k : ic_W l κ M X Z pc' L (.long (x &&& y) :: S) n ρ μ c0 s0) : ic_W l κ M X Z pc L (.long y :: .long x :: S) n ρ μ c0 s0 := by
  obtain ⟨hd, rfl⟩ := hd
  intro p e s m args below meth c C hX hK hB ls H locs hl hP hS
  exact lv_land C.1 C.2.1 hd (k p e s m args below meth c C hX hK hB ls H locs hl hP hS)
theorem iw_dup {v : Value} (hv : v.category = 1) (hd : decode M.2.1 pc = .ok (.dup, 1) ∧ pc + 1 = pc') (k : ic_W l κ M X Z pc' L (v :: v :: S) n ρ μ c0 s0) : ic_W l κ M X Z pc L (v :: S) n ρ μ c0 s0 := by
  obtain ⟨hd, rfl⟩ := hd
  intro p e s m args below meth c C hX hK hB ls H locs hl hP hS
  exact lv_dup C.1 C.2.1 hd hv (k p e s m args below meth c C hX hK hB ls H locs hl hP hS)
theorem iw_dup2 {v w : Value} (hv : v.category = 1) (hw : w.category = 1) (hd : decode M.2.1 pc = .ok (.dup2, 1) ∧ pc + 1 = pc') (k : ic_W l κ M X Z pc' L (v :: w :: v :: w :: S) n ρ μ c0 s0) : ic_W l κ M X Z pc L (v :: w :: S) n ρ μ c0 s0 := by
  obtain ⟨hd, rfl⟩ := hd
  intro p e s m args below meth c C hX hK hB ls H locs hl hP hS
  exact lv_dup2_11 C.1 C.2.1 hd hv hw (k p e s m args below meth c C hX hK hB ls H locs hl hP hS)
theorem iw_pop {v : Value} (hv : v.category = 1) (hd : decode M.2.1 pc = .ok (.pop, 1) ∧ pc + 1 = pc') (k : ic_W l κ M X Z pc' L S n ρ μ c0 s0) : ic_W l κ M X Z pc L (v :: S) n ρ μ c0 s0 := by
  obtain ⟨hd, rfl⟩ := hd
  intro p e s m args below meth c C hX hK hB ls H locs hl hP hS
  exact lv_pop C.1 C.2.1 hd hv (k p e s m args below meth c C hX hK hB ls H locs hl hP hS)
theorem iw_goto {off : Int} (hd : decode M.2.1 pc = .ok (.goto off, 3) ∧ (pc : Int) + off = (pc' : Int)) (k : ic_W l κ M X Z pc' L S n ρ μ c0 s0) : ic_W l κ M X Z pc L S n ρ μ c0 s0 := by
  obtain ⟨hd, ht⟩ := hd
  intro p e s m args below meth c C hX hK hB ls H locs hl hP hS
  exact lv_goto C.1 C.2.1 hd ht (k p e s m args below meth c C hX hK hB ls H locs hl hP hS)
/-! division: the divisor is looked at in the function -/
theorem iw_idiv {α : Type} {x y : Int32} {T : Option α} {R : α} (hf : (if y = 0 then none else T) = some R) (hd : decode M.2.1 pc = .ok (.idiv, 1) ∧ pc + 1 = pc') (k : T = some R → ic_W l κ M X Z pc' L (.int (x / y) :: S) n ρ μ c0 s0) : ic_W l κ M X Z pc L (.int y :: .int x :: S) n ρ μ c0 s0 := by
  obtain ⟨hd, rfl⟩ := hd
  by_cases h0 : y = 0
  · rw [if_pos h0] at hf; cases hf
  · rw [if_neg h0] at hf
    intro p e s m args below meth c C hX hK hB ls H locs hl hP hS
    exact lv_idiv C.1 C.2.1 hd h0 (k hf p e s m args below meth c C hX hK hB ls H locs hl hP hS)
theorem iw_irem {α : Type} {x y : Int32} {T : Option α} {R : α} (hf : (if y = 0 then none else T) = some R) (hd : decode M.2.1 pc = .ok (.irem, 1) ∧ pc + 1 = pc') (k : T = some R → ic_W l κ M X Z pc' L (.int (x - x / y * y) :: S) n ρ μ c0 s0) : ic_W l κ M X Z pc L (.int y :: .int x :: S) n ρ μ c0 s0 := by
  obtain ⟨hd, rfl⟩ := hd
  by_cases h0 : y = 0
  · rw [if_pos h0] at hf; cases hf
  · rw [if_neg h0] at hf
    intro p e s m args below meth c C hX hK hB ls H locs hl hP hS
    exact lv_irem C.1 C.2.1 hd h0 (k hf p e s m args below meth c C hX hK hB ls H locs hl hP hS)
theorem iw_if_eq {α : Type} {x : Int32} {off : Int} {tg : Nat} {T F : Option α} {R : α} (hf : (if x = 0 then T else F) = some R) (hd : decode M.2.1 pc = .ok (.ifCond .eq off, 3) ∧ (pc : Int) + off = (tg : Int) ∧ pc + 3 = pc') (kt : T = some R → ic_W l κ M X Z tg L S n ρ μ c0 s0) (kf : F = some R → ic_W l κ M X Z pc' L S n ρ μ c0 s0) : ic_W l κ M X Z pc L (.int x :: S) n ρ μ c0 s0 := by
  obtain ⟨hd, ht, rfl⟩ := hd
  intro p e s m args below meth c C hX hK hB ls H locs hl hP hS
  exact lv_if_eq C.1 C.2.1 hd ht (fun h => kt (by rw [if_pos h] at hf; exact hf) p e s m args below meth c C hX hK hB ls H locs hl hP hS) (fun h => kf (by rw [if_neg h] at hf; exact hf) p e s m args below meth c C hX hK hB ls H locs hl hP hS)
theorem iw_if_ne {α : Type} {x : Int32} {off : Int} {tg : Nat} {T F : Option α} {R : α} (hf : (if x = 0 then F else T) = some R) (hd : decode M.2.1 pc = .ok (.ifCond .ne off, 3) ∧ (pc : Int) + off = (tg : Int) ∧ pc + 3 = pc') (kt : T = some R → ic_W l κ M X Z tg L S n ρ μ c0 s0) (kf : F = some R → ic_W l κ M X Z pc' L S n ρ μ c0 s0) : ic_W l κ M X Z pc L (.int x :: S) n ρ μ c0 s0 := by
  obtain ⟨hd, ht, rfl⟩ := hd
  intro p e s m args below meth c C hX hK hB ls H locs hl hP hS
  exact lv_if_ne C.1 C.2.1 hd ht (fun h => kt (by rw [if_neg h] at hf; exact hf) p e s m args below meth c C hX hK hB ls H locs hl hP hS) (fun h => kf (by rw [if_pos h] at hf; exact hf) p e s m args below meth c C hX hK hB ls H locs hl hP hS)
theorem iw_if_lt {α : Type} {x : Int32} {off : Int} {tg : Nat} {T F : Option α} {R : α} (hf : (if x < 0 then T else F) = some R) (hd : decode M.2.1 pc = .ok (.ifCond .lt off, 3) ∧ (pc : Int) + off = (tg : Int) ∧ pc + 3 = pc') (kt : T = some R → ic_W l κ M X Z tg L S n ρ μ c0 s0) (kf : F = some R → ic_W l κ M X Z pc' L S n ρ μ c0 s0) : ic_W l κ M X Z pc L (.int x :: S) n ρ μ c0 s0 := by
  obtain ⟨hd, ht, rfl⟩ := hd
  intro p e s m args below meth c C hX hK hB ls H locs hl hP hS
  exact lv_if_lt C.1 C.2.1 hd ht (fun h => kt (by rw [if_pos h] at hf; exact hf) p e s m args below meth c C hX hK hB ls H locs hl hP hS) (fun h => kf (by rw [if_neg h] at hf; exact hf) p e s m args below meth c C hX hK hB ls H locs hl hP hS)
theorem iw_if_ge {α : Type} {x : Int32} {off : Int} {tg : Nat} {T F : Option α} {R : α} (hf : (if 0 ≤ x then T else F) = some R) (hd : decode M.2.1 pc = .ok (.ifCond .ge off, 3) ∧ (pc : Int) + off = (tg : Int) ∧ pc + 3 = pc') (kt : T = some R → ic_W l κ M X Z tg L S n ρ μ c0 s0) (kf : F = some R → ic_W l κ M X Z pc' L S n ρ μ c0 s0) : ic_W l κ M X Z pc L (.int x :: S) n ρ μ c0 s0 := by
  obtain ⟨hd, ht, rfl⟩ := hd
  intro p e s m args below meth c C hX hK hB ls H locs hl hP hS
  exact lv_if_ge C.1 C.2.1 hd ht (fun h => kt (by rw [if_pos h] at hf; exact hf) p e s m args below meth c C hX hK hB ls H locs hl hP hS) (fun h => kf (by rw [if_neg h] at hf; exact hf) p e s m args below meth c C hX hK hB ls H locs hl hP hS)
theorem iw_if_gt {α : Type} {x : Int32} {off : Int} {tg : Nat} {T F : Option α} {R : α} (hf : (if 0 < x then T else F) = some R) (hd : decode M.2.1 pc = .ok (.ifCond .gt off, 3) ∧ (pc : Int) + off = (tg : Int) ∧ pc + 3 = pc') (kt : T = some R → ic_W l κ M X Z tg L S n ρ μ c0 s0) (kf : F = some R → ic_W l κ M X Z pc' L S n ρ μ c0 s0) : ic_W l κ M X Z pc L (.int x :: S) n ρ μ c0 s0 := by
  obtain ⟨hd, ht, rfl⟩ := hd
  intro p e s m args below meth c C hX hK hB ls H locs hl hP hS
  exact lv_if_gt C.1 C.2.1 hd ht (fun h => kt (by rw [if_pos h] at hf; exact hf) p e s m args below meth c C hX hK hB ls H locs hl hP hS) (fun h => kf (by rw [if_neg h] at hf; exact hf) p e s m args below meth c C hX hK hB ls H locs hl hP hS)
theorem iw_if_le {α : Type} {x : Int32} {off : Int} {tg : Nat} {T F : Option α} {R : α} (hf : (if x ≤ 0 then T else F) = some R) (hd : decode M.2.1 pc = .ok (.ifCond .le off, 3) ∧ (pc : Int) + off = (tg : Int) ∧ pc + 3 = pc') (kt : T = some R → ic_W l κ M X Z tg L S n ρ μ c0 s0) (kf : F = some R → ic_W l κ M X Z pc' L S n ρ μ c0 s0) : ic_W l κ M X Z pc L (.int x :: S) n ρ μ c0 s0 := by
  obtain ⟨hd, ht, rfl⟩ := hd
  intro p e s m args below meth c C hX hK hB ls H locs hl hP hS
  exact lv_if_le C.1 C.2.1 hd ht (fun h => kt (by rw [if_pos h] at hf; exact hf) p e s m args below meth c C hX hK hB ls H locs hl hP hS) (fun h => kf (by rw [if_neg h] at hf; exact hf) p e s m args below meth c C hX hK hB ls H locs hl hP hS)
theorem iw_icmp_eq {α : Type} {x y : Int32} {off : Int} {tg : Nat} {T F : Option α} {R : α} (hf : (if x = y then T else F) = some R) (hd : decode M.2.1 pc = .ok (.if_icmp .eq off, 3) ∧ (pc : Int) + off = (tg : Int) ∧ pc + 3 = pc') (kt : T = some R → ic_W l κ M X Z tg L S n ρ μ c0 s0) (kf : F = some R → ic_W l κ M X Z pc' L S n ρ μ c0 s0) : ic_W l κ M X Z pc L (.int y :: .int x :: S) n ρ μ c0 s0 := by
  obtain ⟨hd, ht, rfl⟩ := hd
  intro p e s m args below meth c C hX hK hB ls H locs hl hP hS
  exact lv_icmp_eq C.1 C.2.1 hd ht (fun h => kt (by rw [if_pos h] at hf; exact hf) p e s m args below meth c C hX hK hB ls H locs hl hP hS) (fun h => kf (by rw [if_neg h] at hf; exact hf) p e s m args below meth c C hX hK hB ls H locs hl hP hS)
theorem iw_icmp_ne {α : Type} {x y : Int32} {off : Int} {tg : Nat} {T F : Option α} {R : α} (hf : (if x = y then F else T) = some R) (hd : decode M.2.1 pc = .ok (.if_icmp .ne off, 3) ∧ (pc : Int) + off = (tg : Int) ∧ pc + 3 = pc') (kt : T = some R → ic_W l κ M X Z tg L S n ρ μ c0 s0) (kf : F = some R → ic_W l κ M X Z pc' L S n ρ μ c0 s0) : ic_W l κ M X Z pc L (.int y :: .int x :: S) n ρ μ c0 s0 := by
  obtain ⟨hd, ht, rfl⟩ := hd
  intro p e s m args below meth c C hX hK hB ls H locs hl hP hS
  exact lv_icmp_ne C.1 C.2.1 hd ht (fun h => kt (by rw [if_neg h] at hf; exact hf) p e s m args below meth c C hX hK hB ls H locs hl hP hS) (fun h => kf (by rw [if_pos h] at hf; exact hf) p e s m args below meth c C hX hK hB ls H locs hl hP hS)
theorem iw_icmp_lt {α : Type} {x y : Int32} {off : Int} {tg : Nat} {T F : Option α} {R : α} (hf : (if x < y then T else F) = some R) (hd : decode M.2.1 pc = .ok (.if_icmp .lt off, 3) ∧ (pc : Int) + off = (tg : Int) ∧ pc + 3 = pc') (kt : T = some R → ic_W l κ M X Z tg L S n ρ μ c0 s0) (kf : F = some R → ic_W l κ M X Z pc' L S n ρ μ c0 s0) : ic_W l κ M X Z pc L (.int y :: .int x :: S) n ρ μ c0 s0 := by
  obtain ⟨hd, ht, rfl⟩ := hd
  intro p e s m args below meth c C hX hK hB ls H locs hl hP hS
  exact lv_icmp_lt C.1 C.2.1 hd ht (fun h => kt (by rw [if_pos h] at hf; exact hf) p e s m args below meth c C hX hK hB ls H locs hl hP hS) (fun h => kf (by rw [if_neg h] at hf; exact hf) p e s m args below meth c C hX hK hB ls H locs hl hP hS)
theorem iw_icmp_ge {α : Type} {x y : Int32} {off : Int} {tg : Nat} {T F : Option α} {R : α} (hf : (if y ≤ x then T else F) = some R) (hd : decode M.2.1 pc = .ok (.if_icmp .ge off, 3) ∧ (pc : Int) + off = (tg : Int) ∧ pc + 3 = pc') (kt : T = some R → ic_W l κ M X Z tg L S n ρ μ c0 s0) (kf : F = some R → ic_W l κ M X Z pc' L S n ρ μ c0 s0) : ic_W l κ M X Z pc L (.int y :: .int x :: S) n ρ μ c0 s0 := by
  obtain ⟨hd, ht, rfl⟩ := hd
  intro p e s m args below meth c C hX hK hB ls H locs hl hP hS
  exact lv_icmp_ge C.1 C.2.1 hd ht (fun h => kt (by rw [if_pos h] at hf; exact hf) p e s m args below meth c C hX hK hB ls H locs hl hP hS) (fun h => kf (by rw [if_neg h] at hf; exact hf) p e s m args below meth c C hX hK hB ls H locs hl hP hS)
theorem iw_icmp_gt {α : Type} {x y : Int32} {off : Int} {tg : Nat} {T F : Option α} {R : α} (hf : (if y < x then T else F) = some R) (hd : decode M.2.1 pc = .ok (.if_icmp .gt off, 3) ∧ (pc : Int) + off = (tg : Int) ∧ pc + 3 = pc') (kt : T = some R → ic_W l κ M X Z tg L S n ρ μ c0 s0) (kf : F = some R → ic_W l κ M X Z pc' L S n ρ μ c0 s0) : ic_W l κ M X Z pc L (.int y :: .int x :: S) n ρ μ c0 s0 := by
  obtain ⟨hd, ht, rfl⟩ := hd
  intro p e s m args below meth c C hX hK hB ls H locs hl hP hS
  exact lv_icmp_gt C.1 C.2.1 hd ht (fun h => kt (by rw [if_pos h] at hf; exact hf) p e s m args below meth c C hX hK hB ls H locs hl hP hS) (fun h => kf (by rw [if_neg h] at hf; exact hf) p e s m args below meth c C hX hK hB ls H locs hl hP hS)
theorem iw_icmp_le {α : Type} {x y : Int32} {off : Int} {tg : Nat} {T F : Option α} {R : α} (hf : (if x ≤ y then T else F) = some R) (hd : decode M.2.1 pc = .ok (.if_icmp .le off, 3) ∧ (pc : Int) + off = (tg : Int) ∧ pc + 3 = pc') (kt : T = some R → ic_W l κ M X Z tg L S n ρ μ c0 s0) (kf : F = some R → ic_W l κ M X Z pc' L S n ρ μ c0 s0) : ic_W l κ M X Z pc L (.int y :: .int x :: S) n ρ μ c0 s0 := by
  obtain ⟨hd, ht, rfl⟩ := hd
  intro p e s m args below meth c C hX hK hB ls H locs hl hP hS
  exact lv_icmp_le C.1 C.2.1 hd ht (fun h => kt (by rw [if_pos h] at hf; exact hf) p e s m args below meth c C hX hK hB ls H locs hl hP hS) (fun h => kf (by rw [if_neg h] at hf; exact hf) p e s m args below meth c C hX hK hB ls H locs hl hP hS)
theorem iw_ifnull {α : Type} {r : Nat} {off : Int} {tg : Nat} {T F : Option α} {R : α} (hf : (if r = 0 then T else F) = some R) (hd : decode M.2.1 pc = .ok (.ifnull off, 3) ∧ (pc : Int) + off = (tg : Int) ∧ pc + 3 = pc') (kt : T = some R → ic_W l κ M X Z tg L S n ρ μ c0 s0) (kf : F = some R → ic_W l κ M X Z pc' L S n ρ μ c0 s0) : ic_W l κ M X Z pc L (ic_rv κ.1 r :: S) n ρ μ c0 s0 := by
  obtain ⟨hd, ht, rfl⟩ := hd
  intro p e s m args below meth c C hX hK hB ls H locs hl hP hS
  cases r with
  | zero => exact lv_ifnullN C.1 C.2.1 hd ht (kt (by rw [if_pos rfl] at hf; exact hf) p e s m args below meth c C hX hK hB ls H locs hl hP hS)
  | succ a => exact lv_ifnull C.1 C.2.1 hd (kf (by rw [if_neg (Nat.succ_ne_zero a)] at hf; exact hf) p e s m args below meth c C hX hK hB ls H locs hl hP hS)
theorem iw_ifnonnull {α : Type} {r : Nat} {off : Int} {tg : Nat} {T F : Option α} {R : α} (hf : (if r = 0 then F else T) = some R) (hd : decode M.2.1 pc = .ok (.ifnonnull off, 3) ∧ (pc : Int) + off = (tg : Int) ∧ pc + 3 = pc') (kt : T = some R → ic_W l κ M X Z tg L S n ρ μ c0 s0) (kf : F = some R → ic_W l κ M X Z pc' L S n ρ μ c0 s0) : ic_W l κ M X Z pc L (ic_rv κ.1 r :: S) n ρ μ c0 s0 := by
  obtain ⟨hd, ht, rfl⟩ := hd
  intro p e s m args below meth c C hX hK hB ls H locs hl hP hS
  cases r with
  | zero => exact lv_ifnonnullN C.1 C.2.1 hd (kf (by rw [if_pos rfl] at hf; exact hf) p e s m args below meth c C hX hK hB ls H locs hl hP hS)
  | succ a => exact lv_ifnonnull C.1 C.2.1 hd ht (kt (by rw [if_neg (Nat.succ_ne_zero a)] at hf; exact hf) p e s m args below meth c C hX hK hB ls H locs hl hP hS)
theorem iw_null (hd : decode M.2.1 pc = .ok (.aconst_null, 1) ∧ pc + 1 = pc') (k : ic_W l κ M X Z pc' L (ic_rv κ.1 0 :: S) n ρ μ c0 s0) : ic_W l κ M X Z pc L S n ρ μ c0 s0 := by
  obtain ⟨hd, rfl⟩ := hd
  intro p e s m args below meth c C hX hK hB ls H locs hl hP hS
  exact lv_null C.1 C.2.1 hd (k p e s m args below meth c C hX hK hB ls H locs hl hP hS)
/-- a case of a switch, in the function -/
theorem iw_case {α : Type} {P : Prop} {dP : Decidable P} {T F : Option α} {R : α} {G : Prop} (hf : (if P then T else F) = some R) (kt : P → T = some R → G) (kf : ¬ P → F = some R → G) : G := by
  by_cases h : P
  · exact kt h (by rw [if_pos h] at hf; exact hf)
  · exact kf h (by rw [if_neg h] at hf; exact hf)
theorem iw_tableIn {dflt lo hi off : Int} {offs : Array Int} {len tg : Nat} {x v : Int32} (hx : x = v) (hd : decode M.2.1 pc = .ok (.tableswitch dflt lo hi offs, len) ∧ ¬ v.toInt < lo ∧ ¬ hi < v.toInt ∧ offs[(v.toInt - lo).toNat]? = some off ∧ (pc : Int) + off = (tg : Int)) (k : ic_W l κ M X Z tg L S n ρ μ c0 s0) : ic_W l κ M X Z pc L (.int x :: S) n ρ μ c0 s0 := by
  obtain ⟨hd, h1, h2, ho, ht⟩ := hd
  subst hx
  intro p e s m args below meth c C hX hK hB ls H locs hl hP hS
  exact lv_tableIn C.1 C.2.1 hd h1 h2 ho ht (k p e s m args below meth c C hX hK hB ls H locs hl hP hS)
theorem iw_tableOut {dflt lo hi : Int} {offs : Array Int} {len tg : Nat} {x : Int32} (h : x.toInt < lo ∨ hi < x.toInt) (hd : decode M.2.1 pc = .ok (.tableswitch dflt lo hi offs, len) ∧ (pc : Int) + dflt = (tg : Int)) (k : ic_W l κ M X Z tg L S n ρ μ c0 s0) : ic_W l κ M X Z pc L (.int x :: S) n ρ μ c0 s0 := by
  obtain ⟨hd, ht⟩ := hd
  intro p e s m args below meth c C hX hK hB ls H locs hl hP hS
  exact lv_tableOut C.1 C.2.1 hd h ht (k p e s m args below meth c C hX hK hB ls H locs hl hP hS)
theorem iw_lookup {dflt off : Int} {ps : Array (Int × Int)} {len tg : Nat} {x : Int32} (ho : Op.lookupswitch.offset ps.toList dflt x.toInt = off) (hd : decode M.2.1 pc = .ok (.lookupswitch dflt ps, len) ∧ (ps.toList.zip (ps.toList.drop 1)).all (fun (a, next) => a.1 < next.1) = true ∧ (pc : Int) + off = (tg : Int)) (k : ic_W l κ M X Z tg L S n ρ μ c0 s0) : ic_W l κ M X Z pc L (.int x :: S) n ρ μ c0 s0 := by
  obtain ⟨hd, hp, ht⟩ := hd
  intro p e s m args below meth c C hX hK hB ls H locs hl hP hS
  exact lv_lookup C.1 C.2.1 hd hp ho ht (k p e s m args below meth c C hX hK hB ls H locs hl hP hS)
theorem iw_lookupIn {dflt off : Int} {ps : Array (Int × Int)} {len tg : Nat} {x v : Int32} (hx : x = v) (hd : decode M.2.1 pc = .ok (.lookupswitch dflt ps, len) ∧ (ps.toList.zip (ps.toList.drop 1)).all (fun (a, next) => a.1 < next.1) = true ∧ Op.lookupswitch.offset ps.toList dflt v.toInt = off ∧ (pc : Int) + off = (tg : Int)) (k : ic_W l κ M X Z tg L S n ρ μ c0 s0) : ic_W l κ M X Z pc L (.int x :: S) n ρ μ c0 s0 := by
  obtain ⟨hd, hp, ho, ht⟩ := hd
  subst hx
  exact iw_lookup ho ⟨hd, hp, ht⟩ k
/-- the two halves of a step in the function -/
theorem ic_bd {α β : Type} {x : Option α} {f : α → Option β} {b : β} (h : x.bind f = some b) : ∃ a, x = some a ∧ f a = some b := by
  cases x with
  | none => cases h
  | some a => exact ⟨a, rfl, h⟩
end ICR
