/-! THE PURE LEVEL: words and first rows -/
theorem lit (n : Nat) : (OfNat.ofNat n : Int32) = nI (OfNat.ofNat n) := by cases n <;> rfl
theorem z_call_eq {α β : Type} (v : α) (M : zM) (f : α → zM → Option β) : z_call (some (v, M)) f = f v M := rfl
theorem z_rd_eq {β : Type} (a : Nat) (f : Nat → Option β) : z_rd (some a) f = f a := rfl
theorem zl_eq {α β : Type} (x : α) (f : α → β) : zl x f = f x := rfl
theorem ifTlt {α : Type} {a b : Nat} {d : Decidable (a < b)} {x y : α} (h : a < b) : (if a < b then x else y) = x := if_pos h
theorem ifFlt {α : Type} {a b : Nat} {d : Decidable (a < b)} {x y : α} (h : ¬ a < b) : (if a < b then x else y) = y := if_neg h
theorem ifTle {α : Type} {a b : Nat} {d : Decidable (a ≤ b)} {x y : α} (h : a ≤ b) : (if a ≤ b then x else y) = x := if_pos h
theorem ifFle {α : Type} {a b : Nat} {d : Decidable (a ≤ b)} {x y : α} (h : ¬ a ≤ b) : (if a ≤ b then x else y) = y := if_neg h
theorem ifTeq {α : Type} {a b : Nat} {d : Decidable (a = b)} {x y : α} (h : a = b) : (if a = b then x else y) = x := if_pos h
theorem ifFeq {α : Type} {a b : Nat} {d : Decidable (a = b)} {x y : α} (h : ¬ a = b) : (if a = b then x else y) = y := if_neg h
theorem z_ixN {a n : Nat} (h : a < 2 ^ 31) : (z_ix (nI a) n = true) = (a < n) := by
  simp only [z_ix, nI_toInt h, Bool.and_eq_true, decide_eq_true_eq]
  apply propext
  omega
theorem nI_sub {a b : Nat} (h : b ≤ a) : nI a - nI b = nI (a - b) := pk_sub h
theorem nI_mul (a b : Nat) : nI a * nI b = nI (a * b) := pk_mul a b
theorem nI_div {a d : Nat} (ha : a < 2 ^ 31) (h0 : 0 < d) (hd : d < 2 ^ 31) : nI a / nI d = nI (a / d) := pk_div ha h0 hd
theorem f_in_cases (x : Int32) (n : Nat) (hn : n < 2 ^ 31) : (∃ j, j ≤ n ∧ x = nI j) ∨ (x < 0 ∨ nI n < x) := by
  by_cases h : x < 0
  · exact Or.inr (Or.inl h)
  · by_cases h2 : nI n < x
    · exact Or.inr (Or.inr h2)
    · refine Or.inl (nI_of2 (M := nI n) (nI_toInt hn) h ?_)
      exact Int32.not_lt.mp h2
theorem e_in0 {x : Int32} {n : Nat} (hn : n < 2 ^ 31) (h : x < 0 ∨ nI n < x) (M : zM) : f_X12_in x 0 (nI n) M = some (0, M) := by
  unfold f_X12_in
  rcases h with h | h
  · rw [if_pos h]
  · by_cases h2 : x < 0
    · rw [if_pos h2]
    · rw [if_neg h2, if_pos h]
theorem e_in1 {j n : Nat} (hn : n < 2 ^ 31) (h : j ≤ n) (M : zM) : f_X12_in (nI j) 0 (nI n) M = some (1, M) := by
  unfold f_X12_in
  rw [if_neg (nI_pos (by omega)), if_neg (nI_nlt h hn)]
theorem e_within (x a b : Int32) (M : zM) : f_X11_isWithin x a b M = f_X12_in x a b M := rfl
theorem room_cases (x : Int32) : (∃ j, j < 24 ∧ x = nI j) ∨ (∀ M, f_X11_isRoom x M = some (0, M) ∧ f_X12_isRoom x M = some (0, M)) := by
  rcases f_in_cases x 23 (by omega) with ⟨j, hj, h⟩ | h
  · exact Or.inl ⟨j, by omega, h⟩
  · refine Or.inr (fun M => ⟨?_, ?_⟩)
    · unfold f_X11_isRoom
      rcases h with h | h
      · rw [if_pos h]
      · by_cases h2 : x < 0
        · rw [if_pos h2]
        · rw [if_neg h2, if_pos]
          have h3 : (23 : Int) < x.toInt := by
            have := Int32.lt_iff_toInt_lt.mp h
            rw [nI_toInt (by omega)] at this
            exact this
          refine Int32.le_iff_toInt_le.mpr ?_
          show (24 : Int) ≤ x.toInt
          omega
    · unfold f_X12_isRoom
      rw [show (23 : Int32) = nI 23 from rfl, e_in0 (by omega) h, z_call_eq]
      rfl
theorem e_room {j : Nat} (h : j < 24) (M : zM) : f_X11_isRoom (nI j) M = some (1, M) := by
  unfold f_X11_isRoom
  rw [if_neg (nI_pos (by omega)), if_neg (show ¬ (24 : Int32) ≤ nI j from nI_ge (b := 24) h (by omega))]
theorem e_room2 {j : Nat} (h : j < 24) (M : zM) : f_X12_isRoom (nI j) M = some (1, M) := by
  unfold f_X12_isRoom
  rw [show (23 : Int32) = nI 23 from rfl, e_in1 (by omega) (by omega), z_call_eq]
  rfl
/-- sums and bits of a stretch of numbers -/
def g_sum (N : Nat → Nat) (b : Nat) : Nat → Nat
  | 0 => 0
  | n + 1 => g_sum N b n + N (b + n)
def g_bits (N : Nat → Nat) (b : Nat) : Nat → Nat
  | 0 => 0
  | n + 1 => g_bits N b n + N (b + n) * 2 ^ n
theorem g_sum_congr {N N' : Nat → Nat} {b n : Nat} (h : ∀ k, k < n → N' (b + k) = N (b + k)) : g_sum N' b n = g_sum N b n := by
  induction n with
  | zero => rfl
  | succ n ih => simp only [g_sum]; rw [ih (fun k hk => h k (by omega)), h n (by omega)]
theorem g_bits_congr {N N' : Nat → Nat} {b n : Nat} (h : ∀ k, k < n → N' (b + k) = N (b + k)) : g_bits N' b n = g_bits N b n := by
  induction n with
  | zero => rfl
  | succ n ih => simp only [g_bits]; rw [ih (fun k hk => h k (by omega)), h n (by omega)]
theorem g_sum_le {N : Nat → Nat} {b n c : Nat} (h : ∀ k, k < n → N (b + k) ≤ c) : g_sum N b n ≤ n * c := by
  induction n with
  | zero => simp [g_sum]
  | succ n ih =>
    simp only [g_sum]
    have h1 := ih (fun k hk => h k (by omega))
    have h2 := h n (by omega)
    rw [Nat.add_mul]
    omega
theorem g_bits_lt {N : Nat → Nat} {b n : Nat} (h : ∀ k, k < n → N (b + k) ≤ 1) : g_bits N b n < 2 ^ n := by
  induction n with
  | zero => simp [g_bits]
  | succ n ih =>
    simp only [g_bits]
    have h1 := ih (fun k hk => h k (by omega))
    have h2 := h n (by omega)
    have h3 : N (b + n) * 2 ^ n ≤ 2 ^ n := by
      have := Nat.mul_le_mul_right (2 ^ n) h2
      omega
    rw [Nat.pow_succ]
    omega
theorem g_bits_test {N : Nat → Nat} {b n : Nat} (h : ∀ k, k < n → N (b + k) ≤ 1) : ∀ j, j < n → (g_bits N b n).testBit j = decide (N (b + j) = 1) := by
  induction n with
  | zero => intro j hj; omega
  | succ n ih =>
    intro j hj
    simp only [g_bits]
    have h1 := g_bits_lt (N := N) (b := b) (n := n) (fun k hk => h k (by omega))
    rw [Nat.add_comm, Nat.mul_comm]
    by_cases hjn : j = n
    · subst hjn
      have h2 := h j (by omega)
      rcases (show N (b + j) = 0 ∨ N (b + j) = 1 by omega) with h3 | h3
      · rw [h3]
        simp [Nat.testBit_lt_two_pow h1]
      · rw [h3]
        rw [Nat.mul_one, Nat.testBit_two_pow_add_eq, Nat.testBit_lt_two_pow h1]
        rfl
    · rw [Nat.testBit_two_pow_mul_add _ h1]
      rw [if_pos (by omega)]
      exact ih (fun k hk => h k (by omega)) j (by omega)
theorem nI_or {a b : Nat} : nI a ||| nI b = nI (a ||| b) := by
  apply Int32.toBitVec_inj.mp
  show BitVec.ofNat 32 a ||| BitVec.ofNat 32 b = BitVec.ofNat 32 (a ||| b)
  apply BitVec.eq_of_toNat_eq
  simp [BitVec.toNat_or, Nat.or_mod_two_pow]
theorem nI_and {a b : Nat} : nI a &&& nI b = nI (a &&& b) := by
  apply Int32.toBitVec_inj.mp
  show BitVec.ofNat 32 a &&& BitVec.ofNat 32 b = BitVec.ofNat 32 (a &&& b)
  apply BitVec.eq_of_toNat_eq
  simp [BitVec.toNat_and, Nat.and_mod_two_pow]
theorem nI_bit : ∀ j, j < 31 → (1 : Int32) <<< (nI j &&& 31) = nI (2 ^ j) := by decide
theorem nI_shr {g j : Nat} (hg : g < 2 ^ 31) (hj : j < 31) : nI g >>> (nI j &&& 31) = nI (g / 2 ^ j) := by
  have h := (show ∀ j, j < 31 → ((nI j &&& 31).toBitVec.smod 32).toNat = j by decide) j hj
  exact pk_shrN hg _ j h
theorem bit_of {g j : Nat} : g / 2 ^ j &&& 1 = if g.testBit j then 1 else 0 := by
  rw [Nat.testBit, Nat.shiftRight_eq_div_pow]
  have h : (1 &&& g / 2 ^ j) = g / 2 ^ j &&& 1 := Nat.and_comm _ _
  rw [h, Nat.and_one_is_mod]
  rcases Nat.mod_two_eq_zero_or_one (g / 2 ^ j) with h | h <;> simp [h]
