/-! ===== Int32 by its bits: bt x i ===== -/
def bt (x : Int32) (i : Nat) : Bool := x.toBitVec.getLsbD i
theorem b_ext {x y : Int32} (h : ∀ i, i < 32 → bt x i = bt y i) : x = y := Int32.toBitVec_inj.mp (BitVec.eq_of_getLsbD_eq (fun i hi => h i hi))
theorem b_or (x y : Int32) (i : Nat) : bt (x ||| y) i = (bt x i || bt y i) := by unfold bt; rw [Int32.toBitVec_or, BitVec.getLsbD_or]
theorem b_and (x y : Int32) (i : Nat) : bt (x &&& y) i = (bt x i && bt y i) := by unfold bt; rw [Int32.toBitVec_and, BitVec.getLsbD_and]
theorem b_xor (x y : Int32) (i : Nat) : bt (x ^^^ y) i = (bt x i ^^ bt y i) := by unfold bt; rw [Int32.toBitVec_xor, BitVec.getLsbD_xor]
theorem b_big {x : Int32} {i : Nat} (h : 32 ≤ i) : bt x i = false := BitVec.getLsbD_of_ge _ _ h
theorem b_255 (i : Nat) : bt 255 i = decide (i < 8) := by
  rcases Nat.lt_or_ge i 32 with h | h
  · exact (by decide +kernel : ∀ i, i < 32 → bt 255 i = decide (i < 8)) i h
  · rw [b_big h, decide_eq_false (by omega)]
theorem b_65535 (i : Nat) : bt 65535 i = decide (i < 16) := by
  rcases Nat.lt_or_ge i 32 with h | h
  · exact (by decide +kernel : ∀ i, i < 32 → bt 65535 i = decide (i < 16)) i h
  · rw [b_big h, decide_eq_false (by omega)]
theorem b_m1 : ∀ i, i < 32 → bt (-1) i = true := by decide +kernel
theorem b_0 (i : Nat) : bt 0 i = false := BitVec.getLsbD_zero
theorem s_l : ∀ n, n < 32 → ((nI n &&& 31).toBitVec.smod 32).toNat = n := by decide +kernel
theorem s_u : ∀ n, n < 32 → (((nI n).toUInt32 &&& Int32.toUInt32 31).toBitVec % 32).toNat = n := by decide +kernel
theorem b_shl (n : Nat) (hn : n < 32) (x : Int32) {i : Nat} (hi : i < 32) : bt (x <<< (nI n &&& 31)) i = (decide (n ≤ i) && bt x (i - n)) := by
  unfold bt
  rw [Int32.toBitVec_shiftLeft]
  show (x.toBitVec <<< ((nI n &&& 31).toBitVec.smod 32).toNat).getLsbD i = _
  rw [s_l n hn, BitVec.getLsbD_shiftLeft]
  rcases Nat.lt_or_ge i n with h | h
  · simp [h, Nat.not_le.mpr h]
  · simp [hi, h, Nat.not_lt.mpr h]
theorem b_ushr (n : Nat) (hn : n < 32) (x : Int32) (i : Nat) : bt ((x.toUInt32 >>> ((nI n).toUInt32 &&& Int32.toUInt32 31)).toInt32) i = bt x (n + i) := by
  show (x.toUInt32 >>> ((nI n).toUInt32 &&& Int32.toUInt32 31)).toBitVec.getLsbD i = x.toUInt32.toBitVec.getLsbD (n + i)
  rw [UInt32.toBitVec_shiftRight]
  show (x.toUInt32.toBitVec >>> (((nI n).toUInt32 &&& Int32.toUInt32 31).toBitVec % 32).toNat).getLsbD i = _
  rw [s_u n hn, BitVec.getLsbD_ushiftRight]
theorem b_sshr (n : Nat) (hn : n < 32) (x : Int32) {i : Nat} (hi : i < 32) : bt (x >>> (nI n &&& 31)) i = if n + i < 32 then bt x (n + i) else bt x 31 := by
  unfold bt
  rw [Int32.toBitVec_shiftRight]
  show (x.toBitVec.sshiftRight ((nI n &&& 31).toBitVec.smod 32).toNat).getLsbD i = _
  rw [s_l n hn, BitVec.getLsbD_sshiftRight, BitVec.msb_eq_getLsbD_last]
  simp [hi]
/-! ===== sets of bits ===== -/
theorem b_1 : ∀ i, i < 32 → bt 1 i = decide (i = 0) := by decide +kernel
theorem b_one {n i : Nat} (hn : n < 32) (hi : i < 32) : bt (1 <<< (nI n &&& 31)) i = decide (i = n) := by
  rw [b_shl n hn 1 hi, b_1 _ (by omega)]
  by_cases h : i = n
  · subst h; simp
  · rcases Nat.lt_or_ge i n with h1 | h1
    · simp [h, Nat.not_le.mpr h1]
    · have : ¬ i - n = 0 := by omega
      simp [h, this]
theorem hs_e {x : Int32} {k : Nat} (hk : k < 32) : (x >>> (nI k &&& 31)) &&& 1 = bI (bt x k) := by
  apply b_ext
  intro i hi
  rw [b_and, b_sshr k hk x hi, b_1 i hi]
  by_cases h0 : i = 0
  · subst h0
    simp only [Nat.add_zero, hk, if_true, decide_true, Bool.and_true]
    cases bt x k <;> decide
  · simp only [h0, decide_false, Bool.and_false]
    cases bt x k
    · exact (b_0 i).symm
    · show false = bt 1 i
      rw [b_1 i hi]; simp [h0]
theorem has_e (μ : ic_M) {x : Int32} {k : Nat} (hk : k < 32) : fX9_has μ x (nI k) = some (bI (bt x k)) := by
  unfold fX9_has
  rw [hs_e hk]
  cases bt x k <;> simp [bI, bd_some, rz_0, rz_1]
theorem isIn_e (μ : ic_M) {x : Int32} {k : Nat} (hk : k < 31) : fX8_isIn μ x (nI k) = some (bI (bt x k)) := by
  unfold fX8_isIn
  have h1 : ¬ nI k < 0 := nI_pos (by omega)
  have h2 : ¬ (31 : Int32) ≤ nI k := nI_ge (a := k) (b := 31) hk (by omega)
  rw [if_neg h1, if_neg h2, hs_e (by omega)]
  cases bt x k <;> simp [bI, bd_some, rz_0, rz_1]
theorem isIn_neg (μ : ic_M) {x y : Int32} (h : y < 0) : fX8_isIn μ x y = some 0 := by
  unfold fX8_isIn
  rw [if_pos h, bd_some, rz_0]
/-- the set of those below n of which f holds -/
def bs (f : Nat → Bool) (n : Nat) : Int32 := itr (fun i s => s ||| cond (f i) (1 <<< (nI i &&& 31)) 0) 0 n 0
theorem bs_0 (f : Nat → Bool) : bs f 0 = 0 := rfl
theorem bs_succ (f : Nat → Bool) (n : Nat) : bs f (n + 1) = bs f n ||| cond (f n) (1 <<< (nI n &&& 31)) 0 := by
  unfold bs
  rw [itr_succ, Nat.zero_add]
theorem bs_bt {f : Nat → Bool} : ∀ {n : Nat}, n ≤ 31 → ∀ {k : Nat}, k < 32 → bt (bs f n) k = (decide (k < n) && f k)
  | 0, _, k, _ => by rw [bs_0, b_0]; simp
  | n + 1, hn, k, hk => by
    rw [bs_succ, b_or, bs_bt (by omega) hk]
    have e : bt (cond (f n) (1 <<< (nI n &&& 31)) 0) k = (f n && decide (k = n)) := by
      cases f n
      · exact b_0 k
      · exact b_one (by omega) hk
    rw [e]
    by_cases h : k = n
    · subst h
      simp
    · have e2 : decide (k < n + 1) = decide (k < n) := by
        apply decide_eq_decide.mpr
        omega
      simp [h, e2]
theorem bs_congr {f g : Nat → Bool} {n : Nat} (h : ∀ k, k < n → f k = g k) : bs f n = bs g n := by
  unfold bs
  exact itr_congr n 0 0 (fun j s _ hj => by rw [h j (by omega)])
theorem bs_ext {x : Int32} {f : Nat → Bool} {n : Nat} (hn : n ≤ 31) (h : ∀ k, k < 32 → bt x k = (decide (k < n) && f k)) : x = bs f n := b_ext (fun i hi => by rw [h i hi, bs_bt hn hi])
theorem bs_zero {f : Nat → Bool} {n : Nat} (hn : n ≤ 31) : bs f n = 0 ↔ ∀ k, k < n → f k = false := by
  constructor
  · intro h k hk
    have := bs_bt (f := f) hn (k := k) (by omega)
    rw [h, b_0] at this
    simpa [hk] using this.symm
  · intro h
    apply b_ext
    intro i hi
    rw [bs_bt hn hi, b_0]
    by_cases hi2 : i < n
    · simp [h i hi2]
    · simp [hi2]
