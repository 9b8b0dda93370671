/-! how many bits: the reference's loop, and the JDK's sums -/
def pc (g : Nat) : Nat → Nat
  | 0 => 0
  | n + 1 => pc g n + g / 2 ^ n % 2
theorem pc_le (g : Nat) : ∀ n, pc g n ≤ n := by
  intro n
  induction n with
  | zero => exact Nat.le_refl _
  | succ n ih => simp only [pc]; omega
theorem m_bits_lp {g : Nat} (hg : g < 2 ^ 31) (M : zM) : ∀ k n i, i + k = 24 → k < n → f_X12_bits_4 (nI g) n (nI (pc g i)) (nI i) M = some (nI (pc g 24), M) := by
  intro k
  induction k with
  | zero =>
    intro n i hi hn
    obtain ⟨n, rfl⟩ : ∃ m, n = m + 1 := ⟨n - 1, by omega⟩
    obtain rfl : i = 24 := by omega
    rw [f_X12_bits_4, if_pos (by decide)]
  | succ k ih =>
    intro n i hi hn
    obtain ⟨n, rfl⟩ : ∃ m, n = m + 1 := ⟨n - 1, by omega⟩
    rw [f_X12_bits_4, if_neg (show ¬ (24 : Int32) ≤ nI i from nI_ge (b := 24) (by omega) (by omega)), nI_shr hg (by omega), show ((1 : Int32)) = nI 1 from rfl, nI_and, Nat.and_one_is_mod, zl_eq, zl_eq, nI_add, nI_add]
    exact ih n (i + 1) (by omega) (by omega)
theorem m_bits {g : Nat} (hg : g < 2 ^ 31) (M : zM) : f_X12_bits (nI g) M = some (nI (pc g 24), M) := m_bits_lp hg M 24 zF 0 (by omega) (by decide)
theorem and_blk {x y m n : Nat} (hx : x < 256) (hm : m < 256) : (256 * y + x) &&& (256 * n + m) = 256 * (y &&& n) + (x &&& m) := by
  apply Nat.eq_of_testBit_eq
  intro i
  have hxm : x &&& m < 2 ^ 8 := Nat.lt_of_le_of_lt Nat.and_le_left hx
  rw [Nat.testBit_and, show (256 : Nat) = 2 ^ 8 from rfl, Nat.testBit_two_pow_mul_add _ hx, Nat.testBit_two_pow_mul_add _ hm, Nat.testBit_two_pow_mul_add _ hxm]
  split
  · rw [Nat.testBit_and]
  · rw [Nat.testBit_and]
theorem and3 {a b c m : Nat} (ha : a < 256) (hb : b < 256) (hm : m < 256) (n : Nat) : (256 * (256 * c + b) + a) &&& (256 * (256 * n + m) + m) = 256 * (256 * (c &&& n) + (b &&& m)) + (a &&& m) := by
  rw [and_blk ha hm, and_blk hb hm]
def s1 (a : Nat) : Nat := a - (a / 2 &&& 85)
def s2 (a : Nat) : Nat := (a &&& 51) + (a / 4 &&& 51)
def s3 (a : Nat) : Nat := (a + a / 16) &&& 15
theorem s_pc : ∀ a, a < 256 → s3 (s2 (s1 a)) = pc a 8 := by decide +kernel
theorem s1_lt : ∀ a, a < 256 → s1 a < 256 ∧ (a / 2 &&& 85) ≤ a := by decide +kernel
theorem s2_lt : ∀ a, a < 256 → s2 a ≤ 102 := by decide +kernel
theorem s2_lt2 : ∀ a, a < 256 → s2 (s1 a) ≤ 68 ∧ s2 (s1 a) % 16 ≤ 4 := by decide +kernel
theorem s3_lt : ∀ a, a < 256 → s3 (s2 (s1 a)) ≤ 8 := by decide +kernel
theorem m1 : ∀ a, a < 256 → ∀ b, b < 2 → (a / 2 + 128 * b) &&& 85 = a / 2 &&& 85 := by decide +kernel
theorem m2 : ∀ a, a < 256 → ∀ b, b < 4 → (a / 4 + 64 * b) &&& 51 = a / 4 &&& 51 := by decide +kernel
theorem m3 : ∀ a, a < 69 → ∀ b, b < 5 → (a + (a / 16 + 16 * b)) &&& 15 = (a + a / 16) &&& 15 := by decide +kernel
theorem st1 {a b c : Nat} (ha : a < 256) (hb : b < 256) (hc : c < 256) : (256 * (256 * c + b) + a) - ((256 * (256 * c + b) + a) / 2 &&& 1431655765) = 256 * (256 * s1 c + s1 b) + s1 a := by
  have e : (256 * (256 * c + b) + a) / 2 = 256 * (256 * (c / 2) + (b / 2 + 128 * (c % 2))) + (a / 2 + 128 * (b % 2)) := by omega
  rw [e, show 1431655765 = 256 * (256 * (256 * 85 + 85) + 85) + 85 from rfl, and_blk (by omega) (by omega), and_blk (by omega) (by omega), m1 a ha _ (by omega), m1 b hb _ (by omega)]
  have h2 : c / 2 &&& (256 * 85 + 85) = c / 2 &&& 85 := by
    have := and_blk (x := c / 2) (y := 0) (m := 85) (n := 85) (by omega) (by omega)
    rw [Nat.mul_zero, Nat.zero_add, Nat.zero_and, Nat.mul_zero, Nat.zero_add] at this
    exact this
  rw [h2]
  have q1 := (s1_lt a ha).2
  have q2 := (s1_lt b hb).2
  have q3 := (s1_lt c hc).2
  unfold s1
  omega
theorem st2 {a b c : Nat} (ha : a < 256) (hb : b < 256) (hc : c < 256) : ((256 * (256 * c + b) + a) &&& 858993459) + ((256 * (256 * c + b) + a) / 4 &&& 858993459) = 256 * (256 * s2 c + s2 b) + s2 a := by
  have e : (256 * (256 * c + b) + a) / 4 = 256 * (256 * (c / 4) + (b / 4 + 64 * (c % 4))) + (a / 4 + 64 * (b % 4)) := by omega
  have h0 : ∀ x, x < 256 → x &&& (256 * 51 + 51) = x &&& 51 := by
    intro x hx
    have := and_blk (x := x) (y := 0) (m := 51) (n := 51) hx (by omega)
    rw [Nat.mul_zero, Nat.zero_add, Nat.zero_and, Nat.mul_zero, Nat.zero_add] at this
    exact this
  rw [e, show 858993459 = 256 * (256 * (256 * 51 + 51) + 51) + 51 from rfl, and_blk ha (by omega), and_blk hb (by omega), and_blk (by omega) (by omega), and_blk (by omega) (by omega), m2 a ha _ (by omega), m2 b hb _ (by omega), h0 c hc, h0 (c / 4) (by omega)]
  unfold s2
  omega
theorem st3 {a b c : Nat} (ha : a ≤ 68) (hb : b ≤ 68) (hc : c ≤ 68) (hb' : b % 16 ≤ 4) (hc' : c % 16 ≤ 4) : ((256 * (256 * c + b) + a) + (256 * (256 * c + b) + a) / 16) &&& 252645135 = 256 * (256 * s3 c + s3 b) + s3 a := by
  have e : (256 * (256 * c + b) + a) + (256 * (256 * c + b) + a) / 16 = 256 * (256 * (c + c / 16) + (b + (b / 16 + 16 * (c % 16)))) + (a + (a / 16 + 16 * (b % 16))) := by omega
  have h0 : ∀ x, x < 256 → x &&& (256 * 15 + 15) = x &&& 15 := by
    intro x hx
    have := and_blk (x := x) (y := 0) (m := 15) (n := 15) hx (by omega)
    rw [Nat.mul_zero, Nat.zero_add, Nat.zero_and, Nat.mul_zero, Nat.zero_add] at this
    exact this
  rw [e, show 252645135 = 256 * (256 * (256 * 15 + 15) + 15) + 15 from rfl, and_blk (by omega) (by omega), and_blk (by omega) (by omega), m3 a (by omega) _ (by omega), m3 b (by omega) _ (by omega), h0 (c + c / 16) (by omega)]
  unfold s3
  rfl
theorem and63 (x : Nat) : x &&& 63 = x % 64 := Nat.and_two_pow_sub_one_eq_mod x 6
theorem ush {n s : Nat} (hn : n < 2 ^ 32) (hs : s < 32) : ((nI n).toUInt32 >>> ((nI s).toUInt32 &&& Int32.toUInt32 31)).toInt32 = nI (n / 2 ^ s) := pk_ushrN hn _ s ((show ∀ s, s < 32 → (((nI s).toUInt32 &&& Int32.toUInt32 31).toBitVec % 32).toNat = s by decide) s hs)
theorem pc_low {x y : Nat} : ∀ k, k < 8 → (256 * y + x) / 2 ^ k % 2 = x / 2 ^ k % 2 := by
  intro k hk
  rcases (show k = 0 ∨ k = 1 ∨ k = 2 ∨ k = 3 ∨ k = 4 ∨ k = 5 ∨ k = 6 ∨ k = 7 by omega) with rfl | rfl | rfl | rfl | rfl | rfl | rfl | rfl <;> simp only [Nat.reducePow] <;> omega
theorem pc_blk {x y : Nat} (hx : x < 256) : ∀ n, pc (256 * y + x) (8 + n) = pc x 8 + pc y n := by
  intro n
  induction n with
  | zero =>
    show pc (256 * y + x) 8 = pc x 8 + 0
    simp only [pc]
    rw [pc_low 0 (by omega), pc_low 1 (by omega), pc_low 2 (by omega), pc_low 3 (by omega), pc_low 4 (by omega), pc_low 5 (by omega), pc_low 6 (by omega), pc_low 7 (by omega)]
    rfl
  | succ n ih =>
    show pc (256 * y + x) (8 + n) + (256 * y + x) / 2 ^ (8 + n) % 2 = pc x 8 + (pc y n + y / 2 ^ n % 2)
    rw [ih, Nat.pow_add, ← Nat.div_div_eq_div_mul, show (256 * y + x) / 2 ^ 8 = y by omega]
    omega
theorem pc_split {a b c : Nat} (ha : a < 256) (hb : b < 256) (hc : c < 256) : pc (256 * (256 * c + b) + a) 24 = pc a 8 + pc b 8 + pc c 8 := by
  rw [show 24 = 8 + 16 from rfl, pc_blk ha 16, show 16 = 8 + 8 from rfl, pc_blk hb 8]
  omega
theorem c_bitCount {g : Nat} (hg : g < 2 ^ 24) (M : zM) : f_J6_bitCount_0f7a4 (nI g) M = some (nI (pc g 24), M) := by
  obtain ⟨a, b, c, ha, hb, hc, rfl⟩ : ∃ a b c, a < 256 ∧ b < 256 ∧ c < 256 ∧ g = 256 * (256 * c + b) + a := ⟨g % 256, g / 256 % 256, g / 65536, by omega, by omega, by omega, by omega⟩
  have q1 := s1_lt a ha
  have q2 := s1_lt b hb
  have q3 := s1_lt c hc
  have p1 := s2_lt2 a ha
  have p2 := s2_lt2 b hb
  have p3 := s2_lt2 c hc
  have t1 := s3_lt a ha
  have t2 := s3_lt b hb
  have t3 := s3_lt c hc
  have w1 := st1 ha hb hc
  have w2 := st2 q1.1 q2.1 q3.1
  have w3 := st3 p1.1 p2.1 p3.1 p2.2 p3.2
  have hle : (256 * (256 * c + b) + a) / 2 &&& 1431655765 ≤ 256 * (256 * c + b) + a := Nat.le_trans Nat.and_le_left (Nat.div_le_self _ _)
  rw [pc_split ha hb hc, ← s_pc a ha, ← s_pc b hb, ← s_pc c hc]
  unfold f_J6_bitCount_0f7a4
  rw [show (1 : Int32) = nI 1 from rfl, show (2 : Int32) = nI 2 from rfl, show (4 : Int32) = nI 4 from rfl, show (8 : Int32) = nI 8 from rfl, show (16 : Int32) = nI 16 from rfl, show (1431655765 : Int32) = nI 1431655765 from rfl, show (858993459 : Int32) = nI 858993459 from rfl, show (252645135 : Int32) = nI 252645135 from rfl, show (63 : Int32) = nI 63 from rfl]
  rw [ush (by omega) (by omega), nI_and, nI_sub (by rw [Nat.pow_one]; exact hle), Nat.pow_one, w1, zl_eq]
  rw [ush (by omega) (by omega), nI_and, nI_and, nI_add, show 2 ^ 2 = 4 from rfl, w2, zl_eq]
  rw [ush (by omega) (by omega), nI_add, nI_and, show 2 ^ 4 = 16 from rfl, w3, zl_eq]
  generalize s3 (s2 (s1 a)) = x at *
  generalize s3 (s2 (s1 b)) = y at *
  generalize s3 (s2 (s1 c)) = z at *
  rw [ush (by omega) (by omega), nI_add, zl_eq, ush (by omega) (by omega), nI_add, zl_eq, nI_and, and63]
  clear w1 w2 w3 hle q1 q2 q3 p1 p2 p3
  have e1 : (256 * (256 * z + y) + x) / 2 ^ 8 = 256 * z + y := by omega
  have e2 : (256 * (256 * z + y) + x + (256 * z + y)) / 2 ^ 16 = z := by omega
  rw [e1, e2]
  congr 3
  omega
