/-! the class's reads of a shaft -/
theorem CS.gl {M : zM} {o : Nat} {N : Nat → Nat} (h : CS M o N) : M.1 o 5 = nI (g_bits N 0 24) := h.2.2.2.2.2.1
theorem and_bit {x j : Nat} : (x &&& 2 ^ j = 0) ↔ x.testBit j = false := by
  constructor
  · intro h
    have h1 : (x &&& 2 ^ j).testBit j = false := by rw [h]; simp
    rw [Nat.testBit_and, Nat.testBit_two_pow_self, Bool.and_true] at h1
    exact h1
  · intro h
    apply Nat.eq_of_testBit_eq
    intro i
    rw [Nat.testBit_and, Nat.zero_testBit]
    by_cases hi : i = j
    · subst hi; rw [h]; rfl
    · rw [Nat.testBit_two_pow_of_ne (Ne.symm hi), Bool.and_false]
theorem c_hasGuest {M : zM} {o : Nat} {N : Nat → Nat} (hC : CS M o N) (hR : NR N) {j : Nat} (hj : j < 24) : f_X8_hasGuest o (nI j) M = some (nI (N j), M) := by
  have hg := g_bits_lt (N := N) (b := 0) (n := 24) (fun k hk => by rw [Nat.zero_add]; exact hR.1 k hk)
  have ht := g_bits_test (N := N) (b := 0) (n := 24) (fun k hk => by rw [Nat.zero_add]; exact hR.1 k hk) j hj
  have h1 := hR.1 j hj
  rw [Nat.zero_add] at ht
  rw [f_X8_hasGuest, e_room hj, z_call_eq, if_neg (by decide), hC.2.2.2.2.2.1, nI_shr (by omega) (by omega), show (1 : Int32) = nI 1 from rfl, nI_and, bit_of, ht]
  rcases (show N j = 0 ∨ N j = 1 by omega) with h | h
  · rw [h]; rfl
  · rw [h]; rfl
theorem c_isOpen {M : zM} {o : Nat} {N : Nat → Nat} (hC : CS M o N) (hR : NR N) {j : Nat} (hj : j < 24) : f_X8_isOpen o (nI j) M = some (nI (N (48 + j)), M) := by
  have hg := g_bits_lt (N := N) (b := 48) (n := 24) (fun k hk => hR.2.2.1 k hk)
  have ht := g_bits_test (N := N) (b := 48) (n := 24) (fun k hk => hR.2.2.1 k hk) j hj
  have h1 := hR.2.2.1 j hj
  rw [f_X8_isOpen, e_room hj, z_call_eq, if_neg (by decide), hC.2.2.2.2.2.2.1, nI_shr (by omega) (by omega), show (1 : Int32) = nI 1 from rfl, nI_and, bit_of, ht]
  rcases (show N (48 + j) = 0 ∨ N (48 + j) = 1 by omega) with h | h
  · rw [h]; rfl
  · rw [h]; rfl
/-- open, and with a guest -/
def tk (N : Nat → Nat) (j : Nat) : Bool := decide (N j = 1) && decide (N (48 + j) = 1)
theorem c_takesPart {M : zM} {o : Nat} {N : Nat → Nat} (hC : CS M o N) (hR : NR N) {j : Nat} (hj : j < 24) : f_X8_takesPart o (nI j) M = some (if tk N j then 1 else 0, M) := by
  have ht := g_bits_test (N := N) (b := 0) (n := 24) (fun k hk => by rw [Nat.zero_add]; exact hR.1 k hk) j hj
  have ht2 := g_bits_test (N := N) (b := 48) (n := 24) (fun k hk => hR.2.2.1 k hk) j hj
  rw [Nat.zero_add] at ht
  have hb : (g_bits N 0 24 &&& g_bits N 48 24).testBit j = tk N j := by rw [Nat.testBit_and, ht, ht2]; rfl
  have hlt : (g_bits N 0 24 &&& g_bits N 48 24) &&& 2 ^ j < 2 ^ 31 := Nat.lt_of_le_of_lt Nat.and_le_right (Nat.pow_lt_pow_right (by omega) (by omega))
  rw [f_X8_takesPart, e_room hj, z_call_eq, if_neg (by decide), hC.2.2.2.2.2.1, hC.2.2.2.2.2.2.1, nI_bit j (by omega), nI_and, nI_and]
  by_cases h : tk N j = true
  · rw [if_neg, h]
    · rfl
    · rw [show (0 : Int32) = nI 0 from rfl, nI_eq hlt (by omega), and_bit, hb, h]
      decide
  · rw [if_pos, if_neg h]
    rw [show (0 : Int32) = nI 0 from rfl, nI_eq hlt (by omega), and_bit, hb]
    exact Bool.not_eq_true _ |>.mp h
theorem m_takesIn {M : zM} {N : Nat → Nat} (hS : ST M) (hN : MN M 55 N) (hR : NR N) {j : Nat} (hj : j < 24) : f_X12_takesIn 54 (nI j) M = some (if tk N j then 1 else 0, M) := by
  have h1 := hR.1 j hj
  have h2 := hR.2.2.1 j hj
  rw [f_X12_takesIn]
  (simp (disch := omega) only [z_rd_eq, z_call_eq, zl_eq, lit, nI_add, nI_mul, nI_div, nI_sub, nI_clamp, nI_leI, nI_ltI, nI_eq, z_ixN, ifTlt, ifFlt, ifTle, ifFle, ifTeq, ifFeq, if_true, if_false, (ST.a hS (o := 54) (k := 0) (a := 55) (by decide)), ln55, Nat.zero_add, hN j (by omega), hN (48 + j) (by omega)]; try simp (disch := omega) only [ifTlt, ifFlt, ifTle, ifFle, ifTeq, ifFeq, if_true, if_false, z_call_eq, z_rd_eq, zl_eq])
  unfold tk
  by_cases ha : N j = 1
  · by_cases hb : N (48 + j) = 1
    · simp [ha, hb, lit]
    · simp [ha, hb, lit]
  · simp [ha, lit]
theorem c_above {M : zM} {o : Nat} {N : Nat → Nat} (hO : SO o) (hS : ST M) (hC : CS M o N) (hR : NR N) {j : Nat} (hj : j < 24) : f_X8_above o (nI j) M = some (nI (abv N j), M) := by
  obtain ⟨l1, l2, l3, l4, l5⟩ := hO.lns
  obtain ⟨r1, r2, r3, r4, r5⟩ := hO.rs hS
  have hl := hR.2.2.2.1 j hj
  rw [f_X8_above, e_room hj, z_call_eq, if_neg (by decide)]
  simp only [f_X11_floorOf, f_X11_columnOf, z_call_eq]
  rw [rem4 (by omega)]
  by_cases h : 20 ≤ j
  · (simp (disch := omega) only [z_rd_eq, z_call_eq, zl_eq, lit, nI_add, nI_mul, nI_div, nI_sub, nI_clamp, nI_leI, nI_ltI, nI_eq, z_ixN, ifTlt, ifFlt, ifTle, ifFle, ifTeq, ifFeq, if_true, if_false, abv_hi h]; try simp (disch := omega) only [ifTlt, ifFlt, ifTle, ifFle, ifTeq, ifFeq, if_true, if_false, z_call_eq, z_rd_eq, zl_eq])
  · (simp (disch := omega) only [z_rd_eq, z_call_eq, zl_eq, lit, nI_add, nI_mul, nI_div, nI_sub, nI_clamp, nI_leI, nI_ltI, nI_eq, z_ixN, ifTlt, ifFlt, ifTle, ifFle, ifTeq, ifFeq, if_true, if_false, r2, l2, hC.2.1 j hj]; try simp (disch := omega) only [ifTlt, ifFlt, ifTle, ifFle, ifTeq, ifFeq, if_true, if_false, z_call_eq, z_rd_eq, zl_eq])
    rw [f_X11_columnBy, col_by _ (by omega) _ (by omega), z_call_eq, nI_add]
    unfold abv
    rw [if_neg h]
theorem c_above24 {M : zM} {o : Nat} : f_X8_above o (nI 24) M = some (nI 24, M) := by
  rw [f_X8_above, f_X11_isRoom]
  (simp (disch := omega) only [z_rd_eq, z_call_eq, zl_eq, lit, nI_add, nI_mul, nI_div, nI_sub, nI_clamp, nI_leI, nI_ltI, nI_eq, z_ixN, ifTlt, ifFlt, ifTle, ifFle, ifTeq, ifFeq, if_true, if_false]; try simp (disch := omega) only [ifTlt, ifFlt, ifTle, ifFle, ifTeq, ifFeq, if_true, if_false, z_call_eq, z_rd_eq, zl_eq])
theorem c_feelsOf {M : zM} {o : Nat} {N : Nat → Nat} (hO : SO o) (hS : ST M) (hC : CS M o N) {j q : Nat} (hj : j < 24) (hq : q < 24) : f_X8_feelsOf o (nI j) (nI q) M = some (nI (N (120 + 24 * j + q)), M) := by
  obtain ⟨l1, l2, l3, l4, l5⟩ := hO.lns
  obtain ⟨r1, r2, r3, r4, r5⟩ := hO.rs hS
  rw [f_X8_feelsOf, e_room hj, z_call_eq, if_neg (by decide), e_room hq, z_call_eq, if_neg (by decide)]
  (simp (disch := omega) only [z_rd_eq, z_call_eq, zl_eq, lit, nI_add, nI_mul, nI_div, nI_sub, nI_clamp, nI_leI, nI_ltI, nI_eq, z_ixN, ifTlt, ifFlt, ifTle, ifFle, ifTeq, ifFeq, if_true, if_false, r4, l4]; try simp (disch := omega) only [ifTlt, ifFlt, ifTle, ifFle, ifTeq, ifFeq, if_true, if_false, z_call_eq, z_rd_eq, zl_eq])
  rw [hC.2.2.2.1 (j * 24 + q) (by omega), show 120 + (j * 24 + q) = 120 + 24 * j + q by omega]
theorem c_sumOf_lp {M : zM} {a b : Nat} {N : Nat → Nat} (hl : z_ln SH a = 24) (h : ∀ r, r < 24 → M.1 a r = nI (N (b + r))) : ∀ k n i, i + k = 24 → k < n → f_X11_sumOf_10 n (nI (g_sum N b i)) a (nI 24) (nI i) M = some (nI (g_sum N b 24), M) := by
  intro k
  induction k with
  | zero =>
    intro n i hi hn
    obtain ⟨n, rfl⟩ : ∃ m, n = m + 1 := ⟨n - 1, by omega⟩
    obtain rfl : i = 24 := by omega
    rw [f_X11_sumOf_10]
    (simp (disch := omega) only [z_rd_eq, z_call_eq, zl_eq, lit, nI_add, nI_mul, nI_div, nI_sub, nI_clamp, nI_leI, nI_ltI, nI_eq, z_ixN, ifTlt, ifFlt, ifTle, ifFle, ifTeq, ifFeq, if_true, if_false]; try simp (disch := omega) only [ifTlt, ifFlt, ifTle, ifFle, ifTeq, ifFeq, if_true, if_false, z_call_eq, z_rd_eq, zl_eq])
  | succ k ih =>
    intro n i hi hn
    obtain ⟨n, rfl⟩ : ∃ m, n = m + 1 := ⟨n - 1, by omega⟩
    rw [f_X11_sumOf_10]
    (simp (disch := omega) only [z_rd_eq, z_call_eq, zl_eq, lit, nI_add, nI_mul, nI_div, nI_sub, nI_clamp, nI_leI, nI_ltI, nI_eq, z_ixN, ifTlt, ifFlt, ifTle, ifFle, ifTeq, ifFeq, if_true, if_false, hl, h i (by omega)]; try simp (disch := omega) only [ifTlt, ifFlt, ifTle, ifFle, ifTeq, ifFeq, if_true, if_false, z_call_eq, z_rd_eq, zl_eq])
    exact ih n (i + 1) (by omega) (by omega)
theorem c_sumOf {M : zM} {a b : Nat} {N : Nat → Nat} (hl : z_ln SH a = 24) (h : ∀ r, r < 24 → M.1 a r = nI (N (b + r))) : f_X11_sumOf a M = some (nI (g_sum N b 24), M) := by
  rw [f_X11_sumOf, hl]
  exact c_sumOf_lp hl h 24 zF 0 (by omega) (by decide)
-- the law's part of the invariant
def ltr : Nat → Int32
  | 0 => 114 | 1 => 115 | 2 => 112 | 3 => 102 | 4 => 119 | 5 => 103 | 6 => 97 | _ => 104
def ars : Nat → Int32
  | 0 => 43 | 1 => 45 | 2 => 42 | 3 => 47 | _ => 37
def cms : Nat → Int32
  | 0 => 60 | 1 => 62 | _ => 61
/-- a number or a letter; an operator; a comparison: the class's sign and value, the reference's code -/
def PUs (s v c : Int32) : Prop := (s = 48 ∧ ∃ n, n < 100000 ∧ v = nI n ∧ c = nI n) ∨ (∃ i, i < 8 ∧ s = ltr i ∧ c = nI (1048576 + i))
def ARs (s c : Int32) : Prop := ∃ i, i < 5 ∧ s = ars i ∧ c = nI (1048576 * (2 + i))
def CMs (s c : Int32) : Prop := ∃ i, i < 3 ∧ s = cms i ∧ c = nI (1048576 * (7 + i))
/-- what a step does to the height of the stack (100: a truth is held) -/
def stE (s v c : Int32) (T : Nat → Nat) (k : Nat) : Prop := (T k < 15 ∧ T (k + 1) = T k + 1 ∧ PUs s v c) ∨ (2 ≤ T k ∧ T k ≤ 15 ∧ T (k + 1) + 1 = T k ∧ ARs s c)
def stJ (s v c : Int32) (T : Nat → Nat) (e k : Nat) : Prop := T k = 100 ∧ T (k + 1) = 0 ∧ ∃ t, k < t ∧ t ≤ e ∧ T t = 100 ∧ v = nI t ∧ ((s = 38 ∧ c = nI (1048576 * 11 + t)) ∨ (s = 124 ∧ c = nI (1048576 * 12 + t)))
def stC (s v c : Int32) (T : Nat → Nat) (e k : Nat) : Prop := stE s v c T k ∨ (T k = 2 ∧ T (k + 1) = 100 ∧ CMs s c) ∨ (T k = 100 ∧ T (k + 1) = 100 ∧ s = 33 ∧ c = nI (1048576 * 10)) ∨ stJ s v c T e k
def EWf (sg va cd : Nat → Int32) (a b : Nat) : Prop := ∃ T : Nat → Nat, T a = 0 ∧ T b = 1 ∧ ∀ k, a ≤ k → k < b → stE (sg k) (va k) (cd k) T k
def CWf (sg va cd : Nat → Int32) (a b : Nat) : Prop := ∃ T : Nat → Nat, T a = 0 ∧ T b = 100 ∧ ∀ k, a ≤ k → k < b → stC (sg k) (va k) (cd k) T b k
def RUf (sg va cd : Nat → Int32) (nc : Nat) (kd am te en : Int32) : Prop := ∃ a b c : Nat, am = nI a ∧ te = nI b ∧ en = nI c ∧ a ≤ b ∧ b ≤ c ∧ c ≤ nc ∧ (kd ≠ 120 → EWf sg va cd a b) ∧ CWf sg va cd b c
def LWC (sg va kd am te en : Nat → Int32) (sz ru : Int32) (cd cl cf ch ct : Nat → Int32) (cls : Int32) : Prop := ∃ nc nr : Nat, nc ≤ 240 ∧ nr ≤ 16 ∧ sz = nI nc ∧ ru = nI nr ∧ cls = nI nr ∧ (∀ j, j < nr → (kd j = cl j ∧ am j = cf j ∧ te j = ch j ∧ en j = ct j) ∧ RUf sg va cd nc (kd j) (am j) (te j) (en j))
def LW (M : zM) : Prop := ∃ q, (q = 21 ∨ q = 29) ∧ M.2.1 0 11 = some q ∧ M.2.1 0 12 = some (50 - q) ∧ LWC (M.1 (q + 1)) (M.1 (q + 2)) (M.1 (q + 3)) (M.1 (q + 4)) (M.1 (q + 5)) (M.1 (q + 6)) (M.1 q 6) (M.1 q 7) (M.1 65) (M.1 66) (M.1 67) (M.1 68) (M.1 69) (M.1 54 13)
def TP (M : zM) : Prop := ∃ n, n ≤ 260 ∧ M.1 1 1 = nI n ∧ M.1 54 4 = nI n ∧ ∀ k, k < 260 → ∃ b, b < 256 ∧ M.1 2 k = nI b ∧ M.1 58 k = sb_b b
def KP (M : zM) (K : Nat → Nat) : Prop := (M.1 0 13 = 0 ∧ M.1 54 41 = 0) ∨ (M.1 0 13 = 1 ∧ M.1 54 41 = 1 ∧ NR K ∧ MN M 57 K ∧ CS M 9 K)
def Inv (M : zM) : Prop := ∃ N K, ST M ∧ NR N ∧ MN M 55 N ∧ CS M 3 N ∧ KP M K ∧ TP M ∧ LW M
