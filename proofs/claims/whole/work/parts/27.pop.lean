/-! ===== how many bits ===== -/
def cnt (f : Nat → Bool) : Nat → Nat
  | 0 => 0
  | n + 1 => cnt f n + cond (f n) 1 0
theorem cnt_le (f : Nat → Bool) : ∀ n, cnt f n ≤ n
  | 0 => Nat.le_refl _
  | n + 1 => by
    have := cnt_le f n
    unfold cnt
    cases f n <;> simp <;> omega
theorem cnt_pos {f : Nat → Bool} : ∀ {n k : Nat}, k < n → f k = true → 0 < cnt f n
  | n + 1, k, hk, hf => by
    unfold cnt
    by_cases h : k = n
    · subst h; rw [hf]; simp
    · have := cnt_pos (n := n) (k := k) (by omega) hf
      omega
theorem cnt_0 {f : Nat → Bool} : ∀ {n : Nat}, (∀ k, k < n → f k = false) → cnt f n = 0
  | 0, _ => rfl
  | n + 1, h => by
    unfold cnt
    rw [cnt_0 (fun k hk => h k (by omega)), h n (by omega)]; rfl
theorem cnt_add (f : Nat → Bool) (m : Nat) : ∀ k, cnt f (m + k) = cnt f m + cnt (fun i => f (m + i)) k
  | 0 => rfl
  | k + 1 => by
    show cnt f (m + k) + cond (f (m + k)) 1 0 = cnt f m + (cnt (fun i => f (m + i)) k + cond (f (m + k)) 1 0)
    rw [cnt_add f m k]; omega
theorem cnt_congr {f g : Nat → Bool} : ∀ {n : Nat}, (∀ k, k < n → f k = g k) → cnt f n = cnt g n
  | 0, _ => rfl
  | n + 1, h => by
    unfold cnt
    rw [cnt_congr (fun k hk => h k (by omega)), h n (by omega)]
/-! the numbers themselves, byte by byte -/
theorem an_s {a c b d : Nat} (ha : a < 256) (hc : c < 256) : (a + 256 * b) &&& (c + 256 * d) = (a &&& c) + 256 * (b &&& d) := by
  apply Nat.eq_of_testBit_eq
  intro i
  have h : a &&& c < 2 ^ 8 := Nat.and_lt_two_pow a hc
  rw [Nat.testBit_and, Nat.add_comm a, Nat.add_comm c, Nat.add_comm (a &&& c), show 256 = 2 ^ 8 from rfl, Nat.testBit_two_pow_mul_add _ (show a < 2 ^ 8 from ha), Nat.testBit_two_pow_mul_add _ (show c < 2 ^ 8 from hc), Nat.testBit_two_pow_mul_add _ h]
  split
  · rw [Nat.testBit_and]
  · rw [Nat.testBit_and]
theorem an_3 {a b c x y z : Nat} (ha : a < 256) (hb : b < 256) (hx : x < 256) (hy : y < 256) : (a + 256 * b + 65536 * c) &&& (x + 256 * y + 65536 * z) = (a &&& x) + 256 * (b &&& y) + 65536 * (c &&& z) := by
  rw [show a + 256 * b + 65536 * c = a + 256 * (b + 256 * c) by omega, show x + 256 * y + 65536 * z = x + 256 * (y + 256 * z) by omega, an_s ha hx, an_s hb hy]
  omega
def pA (x : Nat) : Nat := x - (x / 2 &&& 85)
def pB (x : Nat) : Nat := (x &&& 51) + (x / 4 &&& 51)
def pC (x : Nat) : Nat := (x + x / 16) &&& 15
def pT (x : Nat) : Nat := pC (pB (pA x))
theorem p_1 : ∀ x, x < 256 → ∀ r, r < 2 → (x / 2 + 128 * r) &&& 85 = x / 2 &&& 85 := by decide +kernel
theorem p_2 : ∀ x, x < 256 → ∀ r, r < 4 → (x / 4 + 64 * r) &&& 51 = x / 4 &&& 51 := by decide +kernel
theorem p_3 : ∀ x, x < 256 → pA x < 256 ∧ pB (pA x) < 69 ∧ pB (pA x) % 16 < 5 ∧ pT x = cnt (fun i => Nat.testBit x i) 8 ∧ (x / 2 &&& 85) ≤ x := by decide +kernel
theorem p_4 : ∀ x, x < 69 → ∀ r, r < 5 → (x + (x / 16 + 16 * r)) &&& 15 = (x + x / 16) &&& 15 := by decide +kernel
theorem p_5 : ∀ x, x < 4 → (x / 2 &&& 1431655765 / 65536) = (x / 2 &&& 85) ∧ (pA x &&& 858993459 / 65536) = (pA x &&& 51) ∧ (pA x / 4 &&& 858993459 / 65536) = (pA x / 4 &&& 51) ∧ ((pB (pA x) + pB (pA x) / 16) &&& 252645135 / 65536) = pT x := by decide +kernel
/-- the whole way -/
theorem p_A {a b c : Nat} (ha : a < 256) (hb : b < 256) (hc : c < 4) : (a + 256 * b + 65536 * c) - ((a + 256 * b + 65536 * c) / 2 &&& 1431655765) = pA a + 256 * pA b + 65536 * pA c ∧ ((a + 256 * b + 65536 * c) / 2 &&& 1431655765) ≤ a + 256 * b + 65536 * c := by
  have e : (a + 256 * b + 65536 * c) / 2 = (a / 2 + 128 * (b % 2)) + 256 * (b / 2 + 128 * (c % 2)) + 65536 * (c / 2) := by omega
  have e2 : ((a + 256 * b + 65536 * c) / 2 &&& 1431655765) = (a / 2 &&& 85) + 256 * (b / 2 &&& 85) + 65536 * (c / 2 &&& 85) := by
    rw [e, show 1431655765 = 85 + 256 * 85 + 65536 * (1431655765 / 65536) from rfl, an_3 (by omega) (by omega) (by omega) (by omega), p_1 a ha _ (by omega), p_1 b hb _ (by omega), (p_5 c hc).1]
  have h1 := (p_3 a ha).2.2.2.2
  have h2 := (p_3 b hb).2.2.2.2
  have h3 := (p_3 c (by omega)).2.2.2.2
  rw [e2]
  unfold pA
  omega
theorem p_B {a b c : Nat} (ha : a < 256) (hb : b < 256) (hc : c < 4) : ((pA a + 256 * pA b + 65536 * pA c) &&& 858993459) + ((pA a + 256 * pA b + 65536 * pA c) / 4 &&& 858993459) = pB (pA a) + 256 * pB (pA b) + 65536 * pB (pA c) := by
  have h1 := (p_3 a ha).1
  have h2 := (p_3 b hb).1
  have h3 := (p_3 c (by omega)).1
  have h5 := p_5 c hc
  have e : (pA a + 256 * pA b + 65536 * pA c) / 4 = (pA a / 4 + 64 * (pA b % 4)) + 256 * (pA b / 4 + 64 * (pA c % 4)) + 65536 * (pA c / 4) := by omega
  rw [e, show 858993459 = 51 + 256 * 51 + 65536 * (858993459 / 65536) from rfl, an_3 h1 h2 (by omega) (by omega), an_3 (by omega) (by omega) (by omega) (by omega), p_2 _ h1 _ (by omega), p_2 _ h2 _ (by omega), h5.2.1, h5.2.2.1]
  unfold pB
  omega
theorem p_C {a b c : Nat} (ha : a < 256) (hb : b < 256) (hc : c < 4) : ((pB (pA a) + 256 * pB (pA b) + 65536 * pB (pA c)) + (pB (pA a) + 256 * pB (pA b) + 65536 * pB (pA c)) / 16) &&& 252645135 = pT a + 256 * pT b + 65536 * pT c := by
  have h1 := p_3 a ha
  have h2 := p_3 b hb
  have h3 := p_3 c (by omega)
  have h5 := p_5 c hc
  have e : (pB (pA a) + 256 * pB (pA b) + 65536 * pB (pA c)) + (pB (pA a) + 256 * pB (pA b) + 65536 * pB (pA c)) / 16 = (pB (pA a) + (pB (pA a) / 16 + 16 * (pB (pA b) % 16))) + 256 * (pB (pA b) + (pB (pA b) / 16 + 16 * (pB (pA c) % 16))) + 65536 * (pB (pA c) + pB (pA c) / 16) := by omega
  rw [e, show 252645135 = 15 + 256 * 15 + 65536 * (252645135 / 65536) from rfl, an_3 (by omega) (by omega) (by omega) (by omega), p_4 _ h1.2.1 _ h2.2.2.1, p_4 _ h2.2.1 _ h3.2.2.1, h5.2.2.2]
  rfl
theorem p_E {t u v : Nat} (ht : t ≤ 8) (hu : u ≤ 8) (hv : v ≤ 8) : ((t + 256 * u + 65536 * v) + (t + 256 * u + 65536 * v) / 256 + ((t + 256 * u + 65536 * v) + (t + 256 * u + 65536 * v) / 256) / 65536) % 64 = t + u + v := by
  have d : (t + 256 * u + 65536 * v) / 256 = u + 256 * v := by omega
  rw [d]
  have e : (t + 256 * u + 65536 * v + (u + 256 * v)) / 65536 = v := by omega
  rw [e]
  omega
/-! from the machine's numbers to these -/
def tN (x : Int32) : Nat := x.toUInt32.toNat
theorem tN_inj {x y : Int32} (h : tN x = tN y) : x = y := by
  have h1 := UInt32.toNat_inj.mp h
  cases x
  cases y
  exact congrArg _ h1
theorem tN_and (x y : Int32) : tN (x &&& y) = tN x &&& tN y := by
  unfold tN
  rw [Int32.toUInt32_and, UInt32.toNat_and]
theorem tN_add {x y : Int32} (h : tN x + tN y < 2 ^ 32) : tN (x + y) = tN x + tN y := by
  unfold tN at h ⊢
  rw [Int32.toUInt32_add, UInt32.toNat_add, Nat.mod_eq_of_lt h]
theorem tN_sub {x y : Int32} (h : tN y ≤ tN x) : tN (x - y) = tN x - tN y := by
  unfold tN at h ⊢
  rw [Int32.toUInt32_sub, UInt32.toNat_sub_of_le _ _ (UInt32.le_iff_toNat_le.mpr h)]
theorem tN_shr (x k : Int32) : tN ((x.toUInt32 >>> (k.toUInt32 &&& Int32.toUInt32 31)).toInt32) = tN x / 2 ^ ((k.toUInt32 &&& Int32.toUInt32 31).toNat % 32) := by
  unfold tN
  rw [UInt32.toUInt32_toInt32, UInt32.toNat_shiftRight, Nat.shiftRight_eq_div_pow]
theorem tN_bt (x : Int32) (i : Nat) : Nat.testBit (tN x) i = bt x i := rfl
theorem pop_n (μ : ic_M) {x : Int32} (h : tN x < 2 ^ 18) : fJ6_bitCount_0f7a4 μ x = some (nI (cnt (bt x) 24)) := by
  unfold fJ6_bitCount_0f7a4
  simp only [lt_e]
  congr 1
  obtain ⟨a, b, c, ha, hb, hc, e⟩ : ∃ a b c, a < 256 ∧ b < 256 ∧ c < 4 ∧ tN x = a + 256 * b + 65536 * c := ⟨tN x % 256, tN x / 256 % 256, tN x / 65536, by omega, by omega, by omega, by omega⟩
  have q1 := p_A ha hb hc
  have q2 := p_B ha hb hc
  have q3 := p_C ha hb hc
  have b1 := p_3 a ha
  have b2 := p_3 b hb
  have b3 := p_3 c (by omega)
  have t1 : pT a ≤ 8 := by rw [b1.2.2.2.1]; exact cnt_le _ _
  have t2 : pT b ≤ 8 := by rw [b2.2.2.2.1]; exact cnt_le _ _
  have t3 : pT c ≤ 8 := by rw [b3.2.2.2.1]; exact cnt_le _ _
  generalize h1 : x - ((x.toUInt32 >>> (Int32.toUInt32 1 &&& Int32.toUInt32 31)).toInt32 &&& 1431655765) = x1
  have e1 : tN x1 = pA a + 256 * pA b + 65536 * pA c := by
    have g : tN ((x.toUInt32 >>> (Int32.toUInt32 1 &&& Int32.toUInt32 31)).toInt32 &&& 1431655765) = (tN x / 2 &&& 1431655765) := by
      rw [tN_and, tN_shr]; rfl
    rw [← h1, tN_sub (by rw [g, e]; exact q1.2), g, e, q1.1]
  generalize h2 : (x1 &&& 858993459) + ((x1.toUInt32 >>> (Int32.toUInt32 2 &&& Int32.toUInt32 31)).toInt32 &&& 858993459) = x2
  have e2 : tN x2 = pB (pA a) + 256 * pB (pA b) + 65536 * pB (pA c) := by
    have g1 : tN (x1 &&& 858993459) = (tN x1 &&& 858993459) := by rw [tN_and]; rfl
    have g2 : tN ((x1.toUInt32 >>> (Int32.toUInt32 2 &&& Int32.toUInt32 31)).toInt32 &&& 858993459) = (tN x1 / 4 &&& 858993459) := by
      rw [tN_and, tN_shr]; rfl
    rw [← h2, tN_add (by rw [g1, g2, e1, q2]; omega), g1, g2, e1, q2]
  generalize h3 : (x2 + (x2.toUInt32 >>> (Int32.toUInt32 4 &&& Int32.toUInt32 31)).toInt32) &&& 252645135 = x3
  have e3 : tN x3 = pT a + 256 * pT b + 65536 * pT c := by
    have g2 : tN ((x2.toUInt32 >>> (Int32.toUInt32 4 &&& Int32.toUInt32 31)).toInt32) = tN x2 / 16 := by
      rw [tN_shr]; rfl
    rw [← h3, tN_and, tN_add (by rw [g2, e2]; omega), g2, e2]
    exact q3
  generalize h4 : x3 + (x3.toUInt32 >>> (Int32.toUInt32 8 &&& Int32.toUInt32 31)).toInt32 = x4
  have e4 : tN x4 = tN x3 + tN x3 / 256 := by
    have g2 : tN ((x3.toUInt32 >>> (Int32.toUInt32 8 &&& Int32.toUInt32 31)).toInt32) = tN x3 / 256 := by
      rw [tN_shr]; rfl
    rw [← h4, tN_add (by rw [g2, e3]; omega), g2]
  generalize h5 : x4 + (x4.toUInt32 >>> (Int32.toUInt32 16 &&& Int32.toUInt32 31)).toInt32 = x5
  have e5 : tN x5 = tN x4 + tN x4 / 65536 := by
    have g2 : tN ((x4.toUInt32 >>> (Int32.toUInt32 16 &&& Int32.toUInt32 31)).toInt32) = tN x4 / 65536 := by
      rw [tN_shr]; rfl
    rw [← h5, tN_add (by rw [g2, e4, e3]; omega), g2]
  have e6 : tN (x5 &&& 63) = pT a + pT b + pT c := by
    have : tN (x5 &&& 63) = tN x5 % 64 := by
      rw [tN_and, show tN 63 = 2 ^ 6 - 1 from rfl, Nat.and_two_pow_sub_one_eq_mod]
    rw [this, e5, e4, e3]
    exact p_E t1 t2 t3
  have hc24 : cnt (bt x) 24 = pT a + pT b + pT c := by
    have hx : ∀ i, bt x i = Nat.testBit (a + 256 * b + 65536 * c) i := fun i => by rw [← tN_bt, e]
    rw [show 24 = 16 + 8 from rfl, cnt_add, show 16 = 8 + 8 from rfl, cnt_add, b1.2.2.2.1, b2.2.2.2.1, b3.2.2.2.1]
    congr 1
    · congr 1
      · apply cnt_congr
        intro k hk
        rw [hx, show a + 256 * b + 65536 * c = 2 ^ 8 * (b + 256 * c) + a by omega, Nat.testBit_two_pow_mul_add _ (show a < 2 ^ 8 from ha), if_pos hk]
      · apply cnt_congr
        intro k hk
        rw [hx, show a + 256 * b + 65536 * c = 2 ^ 8 * (2 ^ 8 * c + b) + a by omega, Nat.testBit_two_pow_mul_add _ (show a < 2 ^ 8 from ha), if_neg (by omega), Nat.testBit_two_pow_mul_add _ (show b < 2 ^ 8 from hb), if_pos (by omega), Nat.add_sub_cancel_left]
    · apply cnt_congr
      intro k hk
      rw [hx, show a + 256 * b + 65536 * c = 2 ^ 8 * (2 ^ 8 * c + b) + a by omega, Nat.testBit_two_pow_mul_add _ (show a < 2 ^ 8 from ha), if_neg (by omega), Nat.testBit_two_pow_mul_add _ (show b < 2 ^ 8 from hb), if_neg (by omega), show 8 + 8 + k - 8 - 8 = k by omega]
  apply tN_inj
  rw [e6, hc24]
  have : pT a + pT b + pT c < 25 := by omega
  generalize pT a + pT b + pT c = m at this ⊢
  exact (by decide +kernel : ∀ m, m < 25 → m = tN (nI m)) m this
theorem pop_bs (μ : ic_M) {f : Nat → Bool} {n : Nat} (hn : n ≤ 18) : fJ6_bitCount_0f7a4 μ (bs f n) = some (nI (cnt f n)) := by
  have hlt : tN (bs f n) < 2 ^ 18 := by
    apply Nat.lt_pow_two_of_testBit
    intro i hi
    rw [tN_bt]
    rcases Nat.lt_or_ge i 32 with h | h
    · rw [bs_bt (by omega) h]
      simp [show ¬ i < n by omega]
    · exact b_big h
  rw [pop_n μ hlt]
  congr 2
  obtain ⟨k, hk⟩ : ∃ k, 24 = n + k := ⟨24 - n, by omega⟩
  rw [hk, cnt_add, cnt_0 (n := k) (fun i hi => by rw [bs_bt (by omega) (by omega)]; simp [show ¬ n + i < n by omega]), Nat.add_zero]
  exact cnt_congr (fun i hi => by rw [bs_bt (by omega) (by omega)]; simp [hi])
