/-! ===== words that hold wherever a method begins ===== -/
def ic_gw (w : Cond) : Bool := match w with
  | .methodLinkNest _ _ _ _ => true
  | .fieldLinkNest _ _ _ _ _ _ => true
  | .arrayOver (.object _) => true
  | w => goodWord w
def ic_tb : List Cond := lw_tbl.filter ic_gw
theorem ic_in (i : Nat) {w : Cond} (h : lw_tbl[i]? = some w ∧ ic_gw w = true) : w ∈ ic_tb := List.mem_filter.mpr ⟨List.mem_of_getElem? h.1, h.2⟩
theorem ic_warm {args : Array Value} {s : State} (h : ∀ w ∈ ic_tb, w.before args s = true) : ∀ w ∈ ic_tb, ∀ (a' : Array Value) (U : State), s.WarmedH U.vm → w.before a' U = true := by
  intro w hw a' U hW
  have h1 := h w hw
  have h2 : ic_gw w = true := (List.mem_filter.mp hw).2
  cases w
  case methodLinkNest => exact va_Nw.use rfl (va_Nw.warmM hW (va_Nw.of rfl h1))
  case fieldLinkNest => exact va_Nw.use rfl (va_Nw.warmF hW (va_Nw.of rfl h1))
  case arrayOver ty =>
    cases ty
    case object C => exact va_AO.use (va_AO.moved hW.alike (va_AO.of h1))
    all_goals exact word_at hW (good_of_word h2) h1
  all_goals exact word_at hW (good_of_word h2) h1
/-! ===== the static shape of the heap: cell a is made as the a-th ===== -/
abbrev ic_M : Type := Nat → Nat → Int32
abbrev ic_R : Type := Nat → Nat → Nat
abbrev ic_K : Type := Nat × va_G × (Nat → ClassId)
def ic_shL : List (Nat × Nat) := [(0, 8), (0, 4), (1, 240), (0, 1), (1, 18), (1, 6), (0, 3), (3, 16),
  (0, 1), (1, 18), (1, 6), (0, 1), (1, 18), (1, 6), (0, 1), (1, 18), (1, 6), (0, 1), (1, 18), (1, 6),
  (0, 1), (1, 18), (1, 6), (0, 1), (1, 18), (1, 6), (0, 1), (1, 18), (1, 6), (0, 1), (1, 18), (1, 6),
  (0, 1), (1, 18), (1, 6), (0, 1), (1, 18), (1, 6), (0, 1), (1, 18), (1, 6), (0, 1), (1, 18), (1, 6),
  (0, 1), (1, 18), (1, 6), (0, 1), (1, 18), (1, 6), (0, 1), (1, 18), (1, 6), (0, 1), (1, 18), (1, 6),
  (0, 7), (0, 1), (1, 18), (1, 6), (0, 6), (1, 6), (2, 6), (1, 64), (1, 64), (0, 0), (1, 15), (1, 15),
  (4, 2), (0, 2), (0, 1), (1, 18), (1, 6), (0, 2), (0, 1), (1, 18), (1, 6),
  (0, 5), (1, 18), (1, 6), (1, 12), (1, 6), (1, 6), (0, 5), (1, 18), (1, 6), (1, 12), (1, 6), (1, 6),
  (0, 9), (1, 240), (1, 7), (1, 36), (1, 12), (1, 7), (1, 36), (1, 12), (1, 28), (1, 28), (1, 448), (1, 56), (1, 2), (2, 2), (1, 12), (1, 30), (1, 18)]
def ic_sh (a : Nat) : Nat × Nat := ic_shL.getD a (9, 0)
def ic_NC : Nat := 106
def ic_cls : List vw_C := [(RX0, TX0, 3), (RX1, TX1, 6), (RX2, TX2, 2), (RX3, TX3, 3), (RX4, TX4, 5), (RX5, TX5, 13), (RX6, TX6, 5), (RX7, TX7, 1), (RX8, TX8, 12), (RX9, TX9, 24)]
def ic_nf (ci : Nat) : Nat := [3, 6, 2, 3, 5, 13, 5, 1, 12, 24].getD ci 0
def ic_rfL : List (List Bool) := [[true, true, false], [true, true, false, false, false, false], [true, false], [true, false, false], [true, false, false, false, false],
  [true, true, true, true, true, false, false, false, false, false, false, false, false], [true, true, true, true, false], [true],
  [true, true, true, true, true, true, true, true, true, false, false, false],
  [true, false, false, true, true, true, true, true, true, true, true, true, false, true, true, true, false, true, false, true, false, false, false, true]]
def ic_isr (ci k : Nat) : Bool := (ic_rfL.getD ci []).getD k false
def ic_rv (B r : Nat) : Value := match r with
  | 0 => .null
  | a + 1 => .ref (B + a)
def ic_ro (B r : Nat) : Option Nat := match r with
  | 0 => none
  | a + 1 => some (B + a)
theorem ic_ro_rv (B r : Nat) : va_rf (ic_ro B r) = ic_rv B r := by cases r <;> rfl
def ic_fv (κ : ic_K) (ρ : ic_R) (μ : ic_M) (a ci k : Nat) : Value := if ic_isr ci k = true then ic_rv κ.1 (ρ (a + 1) k) else .int (μ (a + 1) k)
def ic_en (κ : ic_K) (ρ : ic_R) (μ : ic_M) (a : Nat) : va_E := match ic_sh a with
  | (0, ci) => .inr (ci, (List.range (ic_nf ci)).map (ic_fv κ ρ μ a ci))
  | (1, n) => .inl (κ.2.2 0, n, .inl (μ (a + 1)))
  | (2, n) => .inl (κ.2.2 1, n, .inl (μ (a + 1)))
  | (3, n) => .inl (κ.2.2 2, n, .inr (.inr (.inr (.inr (fun j => ic_ro κ.1 (ρ (a + 1) j))))))
  | (_, n) => .inl (κ.2.2 3, n, .inr (.inr (.inr (.inr (fun j => ic_ro κ.1 (ρ (a + 1) j))))))
def ic_wd (κ : ic_K) (n : Nat) (ρ : ic_R) (μ : ic_M) : va_W := (List.range n).map (fun a => (κ.1 + a, ic_en κ ρ μ a))
def ic_ty (κ : ic_K) : List (ClassId × FieldType) := [(κ.2.2 0, .int), (κ.2.2 1, .boolean), (κ.2.2 2, .object "IceLaw$Ice"), (κ.2.2 3, .object "IceLaw$Image")]
def ic_A (κ : ic_K) : Nat → Prop := fun q => κ.1 ≤ q
def ic_H (κ : ic_K) (n : Nat) (ρ : ic_R) (μ : ic_M) (H : Heap) : Prop := va_P κ.2.1 ic_cls (ic_wd κ n ρ μ) H ∧ H.size = κ.1 + n
abbrev ic_KK (κ : ic_K) (U : State) : Prop := va_K κ.2.1 ic_cls (ic_ty κ) U
theorem ic_wd_at {κ : ic_K} {n : Nat} {ρ : ic_R} {μ : ic_M} {a : Nat} (h : a < n) : (ic_wd κ n ρ μ)[a]? = some (κ.1 + a, ic_en κ ρ μ a) := by
  simp [ic_wd, h]
theorem ic_D (κ : ic_K) (n : Nat) (ρ : ic_R) (μ : ic_M) : va_D (ic_A κ) (ic_wd κ n ρ μ) := by
  have key : ∀ (k : Nat) (q : Nat × va_E), (ic_wd κ n ρ μ)[k]? = some q → q.1 = κ.1 + k := by
    intro k q h
    have hk : k < n := by
      have := (List.getElem?_eq_some_iff.mp h).1
      simpa [ic_wd] using this
    rw [ic_wd_at hk] at h
    cases h
    rfl
  refine ⟨fun i j p q hi hj hpq => ?_, fun k q hk => ?_⟩
  · have := key i p hi
    have := key j q hj
    omega
  · rw [ic_A, key k q hk]
    exact Nat.le_add_right _ _
theorem ic_set {κ : ic_K} {n : Nat} {ρ ρ' : ic_R} {μ μ' : ic_M} {a : Nat} {e : va_E} (he : ic_en κ ρ' μ' a = e) (ho : ∀ b, b ≠ a → ic_en κ ρ' μ' b = ic_en κ ρ μ b) : (ic_wd κ n ρ μ).set a (κ.1 + a, e) = ic_wd κ n ρ' μ' := by
  subst he
  apply List.ext_getElem?
  intro k
  by_cases hk : k = a
  · subst hk
    by_cases hn : k < n
    · rw [List.getElem?_set_self (by simpa [ic_wd] using hn), ic_wd_at hn]
    · rw [List.getElem?_eq_none (by simpa [ic_wd] using hn), List.getElem?_eq_none (by simpa [ic_wd] using hn)]
  · rw [List.getElem?_set_ne (Ne.symm hk)]
    by_cases hn : k < n
    · rw [ic_wd_at hn, ic_wd_at hn, ho k hk]
    · rw [List.getElem?_eq_none (by simpa [ic_wd] using hn), List.getElem?_eq_none (by simpa [ic_wd] using hn)]
/-- one int of memory is put -/
def ic_up (μ : ic_M) (r k : Nat) (v : Int32) : ic_M := fun b j => if b = r ∧ j = k then v else μ b j
/-- one reference is put -/
def ic_ur (ρ : ic_R) (r k : Nat) (v : Nat) : ic_R := fun b j => if b = r ∧ j = k then v else ρ b j
theorem ic_up_ne {μ : ic_M} {r k b : Nat} {v : Int32} (h : b ≠ r) : ic_up μ r k v b = μ b := by
  funext j
  simp [ic_up, h]
theorem ic_ur_ne {ρ : ic_R} {r k b : Nat} {v : Nat} (h : b ≠ r) : ic_ur ρ r k v b = ρ b := by
  funext j
  simp [ic_ur, h]
theorem ic_up_eq {μ : ic_M} {r k : Nat} {v : Int32} : ic_up μ r k v r = upd (μ r) k v := by
  funext j
  simp [ic_up, upd]
theorem ic_en_up_ne {κ : ic_K} {ρ : ic_R} {μ : ic_M} {a k b : Nat} {v : Int32} (h : b ≠ a) : ic_en κ ρ (ic_up μ (a + 1) k v) b = ic_en κ ρ μ b := by
  have e : ic_up μ (a + 1) k v (b + 1) = μ (b + 1) := ic_up_ne (by omega)
  have e2 : ∀ ci, ic_fv κ ρ (ic_up μ (a + 1) k v) b ci = ic_fv κ ρ μ b ci := fun ci => by
    funext j
    simp only [ic_fv, e]
  simp only [ic_en, e, e2]
theorem ic_en_ur_ne {κ : ic_K} {ρ : ic_R} {μ : ic_M} {a k b : Nat} {v : Nat} (h : b ≠ a) : ic_en κ (ic_ur ρ (a + 1) k v) μ b = ic_en κ ρ μ b := by
  have e : ic_ur ρ (a + 1) k v (b + 1) = ρ (b + 1) := ic_ur_ne (by omega)
  have e2 : ∀ ci, ic_fv κ (ic_ur ρ (a + 1) k v) μ b ci = ic_fv κ ρ μ b ci := fun ci => by
    funext j
    simp only [ic_fv, e]
  simp only [ic_en, e, e2]
theorem ic_map_set {N k : Nat} {f g : Nat → Value} {v : Value} (hv : g k = v) (ho : ∀ j, j ≠ k → g j = f j) : ((List.range N).map f).set k v = (List.range N).map g := by
  subst hv
  apply List.ext_getElem?
  intro j
  by_cases hj : j = k
  · subst hj
    by_cases hn : j < N
    · rw [List.getElem?_set_self (by simpa using hn)]
      simp [hn]
    · rw [List.getElem?_eq_none (by simpa using hn), List.getElem?_eq_none (by simpa using hn)]
  · rw [List.getElem?_set_ne (Ne.symm hj)]
    by_cases hn : j < N
    · simp [hn, ho j hj]
    · rw [List.getElem?_eq_none (by simpa using hn), List.getElem?_eq_none (by simpa using hn)]
/-! ===== what a class's fields are, as the rows ask it ===== -/
def ic_FK (ci : Nat) (C : String) (T : u_T) (N : Nat) (ty : Nat → FieldType) : Prop := ic_cls[ci]? = some (C, T, N) ∧ ic_nf ci = N ∧ (∀ w ∈ u_ws C T N, w ∈ ic_tb) ∧ (∀ k, k < N → parseFieldDescriptor (T k).2.2.1 = some (ty k)) ∧ (∀ a, a < N → ∀ b, b < N → a ≠ b → (T a).2.1 ≠ (T b).2.1)
def ic_chk (l : List Cond) : Bool := l.all (fun w => decide (w ∈ lw_tbl) && ic_gw w)
theorem ic_chk_in {l : List Cond} (h : ic_chk l = true) : ∀ w ∈ l, w ∈ ic_tb := fun w hw => by
  have h1 := List.all_eq_true.mp h w hw
  simp only [Bool.and_eq_true, decide_eq_true_eq] at h1
  exact List.mem_filter.mpr ⟨h1.1, h1.2⟩
theorem ic_fk0 : ic_FK 0 RX0 TX0 3 tyX0 := ⟨rfl, rfl, ic_chk_in (by decide +kernel), tyX0_ok, nmX0⟩
theorem ic_fk1 : ic_FK 1 RX1 TX1 6 tyX1 := ⟨rfl, rfl, ic_chk_in (by decide +kernel), tyX1_ok, nmX1⟩
theorem ic_fk2 : ic_FK 2 RX2 TX2 2 tyX2 := ⟨rfl, rfl, ic_chk_in (by decide +kernel), tyX2_ok, nmX2⟩
theorem ic_fk3 : ic_FK 3 RX3 TX3 3 tyX3 := ⟨rfl, rfl, ic_chk_in (by decide +kernel), tyX3_ok, nmX3⟩
theorem ic_fk4 : ic_FK 4 RX4 TX4 5 tyX4 := ⟨rfl, rfl, ic_chk_in (by decide +kernel), tyX4_ok, nmX4⟩
theorem ic_fk5 : ic_FK 5 RX5 TX5 13 tyX5 := ⟨rfl, rfl, ic_chk_in (by decide +kernel), tyX5_ok, nmX5⟩
theorem ic_fk6 : ic_FK 6 RX6 TX6 5 tyX6 := ⟨rfl, rfl, ic_chk_in (by decide +kernel), tyX6_ok, nmX6⟩
theorem ic_fk7 : ic_FK 7 RX7 TX7 1 tyX7 := ⟨rfl, rfl, ic_chk_in (by decide +kernel), tyX7_ok, nmX7⟩
theorem ic_fk8 : ic_FK 8 RX8 TX8 12 tyX8 := ⟨rfl, rfl, ic_chk_in (by decide +kernel), tyX8_ok, nmX8⟩
theorem ic_fk9 : ic_FK 9 RX9 TX9 24 tyX9 := ⟨rfl, rfl, ic_chk_in (by decide +kernel), tyX9_ok, nmX9⟩
/-! ===== locals: a list ordered by number, all values of one slot ===== -/
def ic_ins (i : Nat) (v : Value) : List (Nat × Value) → List (Nat × Value)
  | [] => [(i, v)]
  | q :: t => bif Nat.ble q.1 i then q :: ic_ins i v t else (i, v) :: q :: t
def ic_st (L : List (Nat × Value)) (i : Nat) (v : Value) : List (Nat × Value) := ic_ins i v (L.filter (fun q => !(Nat.beq q.1 i)))
theorem ic_ins_mem {i : Nat} {v : Value} {q : Nat × Value} : ∀ {l : List (Nat × Value)}, q ∈ ic_ins i v l → q = (i, v) ∨ q ∈ l
  | [], h => by simpa [ic_ins] using h
  | a :: t, h => by
    unfold ic_ins at h
    cases hb : Nat.ble a.1 i with
    | true =>
      rw [hb] at h
      rcases List.mem_cons.mp h with rfl | h
      · exact Or.inr List.mem_cons_self
      · exact (ic_ins_mem h).imp id (List.mem_cons_of_mem _)
    | false =>
      rw [hb] at h
      exact List.mem_cons.mp h
def ic_L (ls : Array Slot) (nL : Nat) (L : List (Nat × Value)) : Prop := lv_has ls nL L ∧ ∀ q ∈ L, q.2.category = 1
theorem ic_L.st {ls ls' : Array Slot} {nL i : Nat} {L : List (Nat × Value)} {v : Value} (h : ic_L ls nL L) (hv : v.category = 1) (h' : lv_has ls' nL ((i, v) :: L.filter (fun q => !(q.1 == i) && !(q.1 + 1 == i && q.2.category == 2)))) : ic_L ls' nL (ic_st L i v) := by
  have key : ∀ q ∈ ic_st L i v, q = (i, v) ∨ (q ∈ L ∧ q.1 ≠ i) := by
    intro q hq
    rcases ic_ins_mem hq with h1 | h1
    · exact Or.inl h1
    · obtain ⟨h2, h3⟩ := List.mem_filter.mp h1
      refine Or.inr ⟨h2, fun e => ?_⟩
      rw [e] at h3
      simp at h3
  refine ⟨⟨h'.1, h'.2.1, fun q hq => ?_⟩, fun q hq => ?_⟩
  · rcases key q hq with rfl | ⟨h1, h2⟩
    · exact h'.2.2 _ List.mem_cons_self
    · exact h'.2.2 q (List.mem_cons_of_mem _ (List.mem_filter.mpr ⟨h1, by simp [h2, h.2 q h1]⟩))
  · rcases key q hq with rfl | ⟨h1, -⟩
    · exact hv
    · exact h.2 q h1
def ic_c1 : List Value → Prop
  | [] => True
  | v :: t => v.category = 1 ∧ ic_c1 t
def ic_args : Nat → List Value → List (Nat × Value)
  | _, [] => []
  | i, v :: t => (i, v) :: ic_args (i + 1) t
theorem ic_args_eq : ∀ {av : List Value} {i : Nat}, ic_c1 av → lv_args i av = ic_args i av ∧ (lg_sl av).length = av.length ∧ ∀ q ∈ ic_args i av, q.2.category = 1
  | [], i, _ => ⟨rfl, rfl, fun q h => by cases h⟩
  | v :: t, i, h => by
    obtain ⟨h1, h2⟩ := h
    obtain ⟨a, b, c⟩ := ic_args_eq (i := i + 1) h2
    refine ⟨?_, ?_, ?_⟩
    · rw [lv_args, if_neg (by rw [h1]; decide), a]; rfl
    · simp only [lg_sl, List.flatMap_cons, List.length_append] at b ⊢
      rw [b, if_neg (by rw [h1]; decide)]
      simp only [List.length_cons, List.length_nil]; omega
    · intro q hq
      rcases List.mem_cons.mp hq with rfl | hq
      · exact h1
      · exact c q hq
theorem ic_sum {l : List Value} (h : l.length ≤ 4) : (l.map fun v => v.category).sum ≤ 8 := by
  have key : ∀ l : List Value, (l.map fun v => v.category).sum ≤ 2 * l.length := by
    intro l
    induction l with
    | nil => simp
    | cons v t ih =>
      have h1 : v.category ≤ 2 := by rcases lv_cat v with h | h <;> omega
      simp only [List.map_cons, List.sum_cons, List.length_cons]
      omega
  have := key l
  omega
/-! ===== the judgement of a walk ===== -/
abbrev ic_Md : Type := MethodName × ByteArray × Nat × Option FieldType × Room
def ic_Cx (p : Program) (M : ic_Md) (s : State) (m : MethodId) (args : Array Value) (meth : Method) (c : Code) : Prop :=
  p.tables.exec = Jvm.exec ∧ c.code = M.2.1 ∧ meth.sig.returnType = M.2.2.2.1 ∧ meth.locks = false ∧ c.maxLocals = M.2.2.1 ∧ s.vm.findClass M.1.cls = some m.cls ∧ (∀ w ∈ ic_tb, w.before args s = true) ∧ meth.name = M.1.name
def ic_W (l : Launch) (κ : ic_K) (M : ic_Md) (X : State → Array Value → Prop) (Z : State → List Frame → Array Value → State → Prop) (pc : Nat) (L : List (Nat × Value)) (S : List Value) (n : Nat) (ρ : ic_R) (μ : ic_M) (c0 s0 : Nat) : Prop :=
  ∀ (p : Program) (e : Env) (s : State) (m : MethodId) (args : Array Value) (below : List Frame) (meth : Method) (c : Code), ic_Cx p M s m args meth c → X s args → ic_KK κ s → κ.1 ≤ s.heap.size →
    ∀ (ls : Array Slot) (H : Heap) (locs : List Loc), ic_L ls M.2.2.1 L → ic_H κ n ρ μ H → va_S (ic_A κ) s.heap H locs → W p l e M.2.2.2.2 s m args below meth c H locs c0 s0 (Z s below args) (F0 m pc ls S)
/-- a contract: from this memory, with these arguments, the method returns v and leaves that memory -/
def ic_Qc (κ : ic_K) (v : Option Value) (n : Nat) (ρ : ic_R) (μ : ic_M) : Array Value → State → Outcome → State → Prop := fun _ st o t => (o = .returned v ∧ ic_H κ n ρ μ t.heap ∧ ic_KK κ t) ∧ va_F (ic_A κ) st t
def ic_Pc (κ : ic_K) (av : List Value) (n : Nat) (ρ : ic_R) (μ : ic_M) : Array Value → State → Prop := va_Pc av (fun U => ic_H κ n ρ μ U.heap ∧ ic_KK κ U)
def ic_ws (M : ic_Md) : List Cond := .code M.1 M.2.1 M.2.2.1 M.2.2.2.1 :: ic_tb
def ic_C (l : Launch) (κ : ic_K) (M : ic_Md) (av : List Value) (n : Nat) (ρ : ic_R) (μ : ic_M) (v : Option Value) (n' : Nat) (ρ' : ic_R) (μ' : ic_M) : Prop :=
  Met l M.1 (ic_ws M) M.2.2.2.2 (ic_Pc κ av n ρ μ) (ic_Qc κ v n' ρ' μ') M.2.2.2.2.cells M.2.2.2.2.slots (ic_A κ)
/-- the end of a method -/
def ic_Z (κ : ic_K) (M : ic_Md) (v : Option Value) (n : Nat) (ρ : ic_R) (μ : ic_M) : State → List Frame → Array Value → State → Prop := fun s below args => MQ below (ic_Qc κ v n ρ μ) args s M.2.2.2.2.cells M.2.2.2.2.slots (ic_A κ)
def ic_X0 : State → Array Value → Prop := fun _ _ => True
/-- a contract out of a walk -/
theorem ic_C.of {l : Launch} {κ : ic_K} {M : ic_Md} {av : List Value} {n n' : Nat} {ρ ρ' : ic_R} {μ μ' : ic_M} {v : Option Value} {L : List (Nat × Value)} (hc : ic_c1 av) (hp : plainName M.1.cls = true ∧ av.length ≤ M.2.2.1) (hL : ic_args 0 av = L)
    (k : ic_W l κ M ic_X0 (ic_Z κ M v n' ρ' μ') 0 L [] n ρ μ 0 0) : ic_C l κ M av n ρ μ v n' ρ' μ' := by
  refine Met.ofW (cc := M.2.1) (maxL := M.2.2.1) (ret := M.2.2.2.1) hp.1 rfl ?_
  intro p e s m args below meth c s₁ B hml hv
  obtain ⟨rfl, hP, hK⟩ := hv
  obtain ⟨a1, a2, a3⟩ := ic_args_eq (i := 0) hc
  have hts := atoms_spec (ws := ic_ws M) B.pre
  have hl := lv_entry av (n := M.2.2.1) (by rw [a2]; exact hp.2)
  rw [lg_entry_eq]
  generalize (lg_sl av ++ List.replicate (M.2.2.1 - (lg_sl av).length) Slot.unset).toArray = ls at hl ⊢
  subst hL
  rw [a1] at hl
  exact k p e s m _ below meth c ⟨B.exec, B.bytes, B.returns, B.notSynchronized, hml, findClass_of_methodNamed B.named, fun w hw => hts w (List.mem_cons_of_mem _ hw), (name_of_methodNamed B.named B.method).1⟩ trivial hK (by rw [hP.2]; exact Nat.le_add_right _ _) ls s.heap [] ⟨hl, a3⟩ hP va_S.rf
