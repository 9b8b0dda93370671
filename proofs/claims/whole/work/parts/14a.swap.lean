/-! guests leave and change rooms -/
def rm (r q x : Nat) : Nat := if x = r then q else if x = q then r else x
theorem rm_lt {r q x n : Nat} (hr : r < n) (hq : q < n) (hx : x < n) : rm r q x < n := by
  unfold rm
  by_cases h : x = r
  · rw [if_pos h]; exact hq
  · rw [if_neg h]
    by_cases h2 : x = q
    · rw [if_pos h2]; exact hr
    · rw [if_neg h2]; exact hx
def swf {α : Type} (f : Nat → α) (a b : Nat) : Nat → α := va_up (va_up f a (f b)) b (f a)
theorem swf_rm {α : Type} {f : Nat → α} {r q x : Nat} : swf f r q x = f (rm r q x) := by
  unfold swf rm
  by_cases h : x = q
  · rw [h, va_eq]
    by_cases e : q = r
    · rw [if_pos e, e]
    · rw [if_neg e, if_pos rfl]
  · rw [va_ne h]
    by_cases e : x = r
    · rw [e, va_eq, if_pos rfl]
    · rw [va_ne e, if_neg e, if_neg h]
theorem swf_o {α : Type} {f : Nat → α} {r q x : Nat} (h1 : x ≠ r) (h2 : x ≠ q) : swf f r q x = f x := by
  unfold swf
  rw [va_ne h2, va_ne h1]
theorem c_swap {M : zM} {c a b : Nat} (ha : a < z_ln SH c) (hb : b < z_ln SH c) (hl : z_ln SH c < 1000) : f_X8_swap c (nI a) (nI b) M = some ((), (va_up M.1 c (swf (M.1 c) a b), M.2)) := by
  rw [f_X8_swap, if_pos (by rw [z_ixN (by omega)]; exact ha), zl_eq, if_pos (by rw [z_ixN (by omega)]; exact hb), if_pos (by rw [z_ixN (by omega)]; exact ha), zl_eq, if_pos (by rw [z_ixN (by omega)]; exact hb), zl_eq, nI_clamp (by omega), nI_clamp (by omega)]
  unfold zu swf
  simp only [va_va, va_eq]
theorem m_swaps {M : zM} {a b : Nat} (hS : ST M) (ha : a < 699) (hb : b < 699) : f_X12_swaps 54 (nI a) (nI b) M = some ((), (va_up M.1 55 (swf (M.1 55) a b), M.2)) := by
  rw [f_X12_swaps, (ST.a hS (o := 54) (k := 0) (a := 55) (by decide)), z_rd_eq, ln55, if_pos (by rw [z_ixN (by omega)]; exact ha), zl_eq, z_rd_eq, z_rd_eq, ln55, if_pos (by rw [z_ixN (by omega)]; exact hb), if_pos (by rw [z_ixN (by omega)]; exact ha), zl_eq]
  show z_rd (M.2.1 54 0) _ = _
  rw [(ST.a hS (o := 54) (k := 0) (a := 55) (by decide)), z_rd_eq, ln55, if_pos (by rw [z_ixN (by omega)]; exact hb), zl_eq, nI_clamp (by omega), nI_clamp (by omega)]
  unfold zu swf
  simp only [va_va, va_eq]
def sw24 {α : Type} (b : Nat) (f : Nat → α) (r q i k : Nat) : α := if b ≤ k ∧ k < b + 576 ∧ (k - b) % 24 < i then f (b + 24 * rm r q ((k - b) / 24) + (k - b) % 24) else f k
theorem sw24_0 {α : Type} {b : Nat} {f : Nat → α} {r q : Nat} : sw24 b f r q 0 = f := by
  funext k
  unfold sw24
  rw [if_neg (by omega)]
theorem sw24_s {α : Type} {b : Nat} {f : Nat → α} {r q i : Nat} (hr : r < 24) (hq : q < 24) (hi : i < 24) : swf (sw24 b f r q i) (b + 24 * r + i) (b + 24 * q + i) = sw24 b f r q (i + 1) := by
  funext k
  have A : sw24 b f r q i (b + 24 * r + i) = f (b + 24 * r + i) := by unfold sw24; rw [if_neg (by omega)]
  have Bq : sw24 b f r q i (b + 24 * q + i) = f (b + 24 * q + i) := by unfold sw24; rw [if_neg (by omega)]
  unfold swf
  rw [A, Bq]
  by_cases h1 : k = b + 24 * q + i
  · rw [h1, va_eq]
    unfold sw24
    rw [if_pos (by omega), show (b + 24 * q + i - b) / 24 = q by omega, show (b + 24 * q + i - b) % 24 = i by omega]
    unfold rm
    by_cases e : q = r
    · rw [if_pos e, e]
    · rw [if_neg e, if_pos rfl]
  · rw [va_ne h1]
    by_cases h2 : k = b + 24 * r + i
    · rw [h2, va_eq]
      unfold sw24
      rw [if_pos (by omega), show (b + 24 * r + i - b) / 24 = r by omega, show (b + 24 * r + i - b) % 24 = i by omega]
      unfold rm
      rw [if_pos rfl]
    · rw [va_ne h2]
      unfold sw24
      by_cases h3 : b ≤ k ∧ k < b + 576 ∧ (k - b) % 24 < i
      · rw [if_pos h3, if_pos (by omega)]
      · rw [if_neg h3]
        by_cases h4 : b ≤ k ∧ k < b + 576 ∧ (k - b) % 24 < i + 1
        · have e : rm r q ((k - b) / 24) = (k - b) / 24 := by
            unfold rm
            rw [if_neg (by omega), if_neg (by omega)]
          rw [if_pos h4, e, show b + 24 * ((k - b) / 24) + (k - b) % 24 = k by omega]
        · rw [if_neg h4]
def exg (N : Nat → Nat) (r q k : Nat) : Nat := if k < 24 then N (rm r q k) else if k < 48 then N (24 + rm r q (k - 24)) else if 120 ≤ k ∧ k < 696 then N (120 + 24 * rm r q ((k - 120) / 24) + (k - 120) % 24) else N k
theorem exg_g {N : Nat → Nat} {r q x : Nat} (h : x < 24) : exg N r q x = N (rm r q x) := by unfold exg; rw [if_pos h]
theorem exg_s {N : Nat → Nat} {r q x : Nat} (h : x < 24) : exg N r q (24 + x) = N (24 + rm r q x) := by unfold exg; rw [if_neg (by omega), if_pos (by omega), show 24 + x - 24 = x by omega]
theorem exg_f {N : Nat → Nat} {r q x j : Nat} (h : x < 24) (hj : j < 24) : exg N r q (120 + 24 * x + j) = N (120 + 24 * rm r q x + j) := by
  unfold exg
  rw [if_neg (by omega), if_neg (by omega), if_pos (by omega), show (120 + 24 * x + j - 120) / 24 = x by omega, show (120 + 24 * x + j - 120) % 24 = j by omega]
theorem exg_o {N : Nat → Nat} {r q k : Nat} (h1 : 48 ≤ k) (h2 : k < 120 ∨ 696 ≤ k) : exg N r q k = N k := by
  unfold exg
  rw [if_neg (by omega), if_neg (by omega), if_neg (by omega)]
theorem NR.exg {N : Nat → Nat} (hR : NR N) {r q : Nat} (hr : r < 24) (hq : q < 24) : NR (exg N r q) := by
  obtain ⟨h1, h2, h3, h4, h5, h6, h7, h8, h9, h10⟩ := hR
  refine ⟨fun x hx => ?_, fun x hx => ?_, fun x hx => ?_, fun x hx => ?_, fun x hx => ?_, fun k hk => ?_, ?_, ?_, ?_, fun x hx hz => ?_⟩
  · rw [exg_g hx]; exact h1 _ (rm_lt hr hq hx)
  · rw [exg_s hx]; exact h2 _ (rm_lt hr hq hx)
  · rw [exg_o (by omega) (by omega)]; exact h3 x hx
  · rw [exg_o (by omega) (by omega)]; exact h4 x hx
  · rw [exg_o (by omega) (by omega)]; exact h5 x hx
  · have hx : k / 24 < 24 := by omega
    have := rm_lt hr hq hx
    rw [show 120 + k = 120 + 24 * (k / 24) + k % 24 by omega, exg_f hx (by omega), Nat.add_assoc]
    exact h6 _ (by omega)
  · rw [exg_o (by omega) (by omega)]; exact h7
  · rw [exg_o (by omega) (by omega)]; exact h8
  · rw [exg_o (by omega) (by omega)]; exact h9
  · rw [exg_g hx] at hz
    rw [exg_s hx]; exact h10 _ (rm_lt hr hq hx) hz
theorem g_sum_sh {N N' : Nat → Nat} {b b' n : Nat} (h : ∀ k, k < n → N' (b' + k) = N (b + k)) : g_sum N' b' n = g_sum N b n := by
  induction n with
  | zero => rfl
  | succ n ih => simp only [g_sum]; rw [ih (fun k hk => h k (by omega)), h n (by omega)]
theorem nI_xor {a b : Nat} : nI a ^^^ nI b = nI (a ^^^ b) := by
  apply Int32.toBitVec_inj.mp
  show BitVec.ofNat 32 a ^^^ BitVec.ofNat 32 b = BitVec.ofNat 32 (a ^^^ b)
  apply BitVec.eq_of_toNat_eq
  simp [BitVec.toNat_xor, Nat.xor_mod_two_pow]
theorem exg_bits {N : Nat → Nat} (hR : NR N) {r q : Nat} (hr : r < 24) (hq : q < 24) : (if N r = N q then g_bits N 0 24 else g_bits N 0 24 ^^^ (2 ^ r ||| 2 ^ q)) = g_bits (exg N r q) 0 24 := by
  have h : ∀ k, k < 24 → N (0 + k) ≤ 1 := fun k hk => by rw [Nat.zero_add]; exact hR.1 k hk
  have h' : ∀ k, k < 24 → exg N r q (0 + k) ≤ 1 := fun k hk => by rw [Nat.zero_add]; exact (hR.exg hr hq).1 k hk
  have hl : g_bits N 0 24 ^^^ (2 ^ r ||| 2 ^ q) < 2 ^ 24 := Nat.xor_lt_two_pow (g_bits_lt h) (Nat.or_lt_two_pow (Nat.pow_lt_pow_right (by omega) hr) (Nat.pow_lt_pow_right (by omega) hq))
  have hr1 := hR.1 r hr
  have hq1 := hR.1 q hq
  refine eq_bits ?_ (g_bits_lt h') (fun i hi => ?_)
  · by_cases e : N r = N q
    · rw [if_pos e]; exact g_bits_lt h
    · rw [if_neg e]; exact hl
  · rw [g_bits_test h' i hi, Nat.zero_add, exg_g hi]
    by_cases e : N r = N q
    · rw [if_pos e, g_bits_test h i hi, Nat.zero_add]
      unfold rm
      by_cases e1 : i = r
      · rw [if_pos e1, e1, e]
      · rw [if_neg e1]
        by_cases e2 : i = q
        · rw [if_pos e2, e2, e]
        · rw [if_neg e2]
    · rw [if_neg e, Nat.testBit_xor, Nat.testBit_or, g_bits_test h i hi, Nat.zero_add]
      unfold rm
      by_cases e1 : i = r
      · rw [if_pos e1, e1, Nat.testBit_two_pow_self, Bool.true_or, Bool.xor_true]
        rcases (show (N r = 0 ∧ N q = 1) ∨ (N r = 1 ∧ N q = 0) by omega) with ⟨z1, z2⟩ | ⟨z1, z2⟩ <;> simp [z1, z2]
      · rw [if_neg e1, Nat.testBit_two_pow_of_ne (Ne.symm e1), Bool.false_or]
        by_cases e2 : i = q
        · rw [if_pos e2, e2, Nat.testBit_two_pow_self, Bool.xor_true]
          rcases (show (N r = 0 ∧ N q = 1) ∨ (N r = 1 ∧ N q = 0) by omega) with ⟨z1, z2⟩ | ⟨z1, z2⟩ <;> simp [z1, z2]
        · rw [if_neg e2, Nat.testBit_two_pow_of_ne (Ne.symm e2), Bool.xor_false]
theorem c_ex_lp {o r q : Nat} {f : Nat → Int32} (hO : SO o) (hr : r < 24) (hq : q < 24) : ∀ m n i (M : zM), i + m = 24 → m < n → ST M → M.1 (o + 4) = sw24 0 f r q i → ∃ M', f_X8_exchange_64 o (nI r) (nI q) n (nI i) M = some ((), M') ∧ Fr [o + 4] M M' ∧ M'.1 (o + 4) = sw24 0 f r q 24 := by
  obtain ⟨l1, l2, l3, l4, l5⟩ := hO.lns
  intro m
  induction m with
  | zero =>
    intro n i M hi hn hS h
    obtain ⟨n, rfl⟩ : ∃ m, n = m + 1 := ⟨n - 1, by omega⟩
    obtain rfl : i = 24 := by omega
    exact ⟨M, by rw [f_X8_exchange_64, if_pos (by decide)], Fr.rf, h⟩
  | succ m ih =>
    intro n i M hi hn hS h
    obtain ⟨n, rfl⟩ : ∃ m, n = m + 1 := ⟨n - 1, by omega⟩
    obtain ⟨r1, r2, r3, r4, r5⟩ := hO.rs hS
    have e : f_X8_swap (o + 4) (nI (24 * r + i)) (nI (24 * q + i)) M = some ((), (va_up M.1 (o + 4) (sw24 0 f r q (i + 1)), M.2)) := by
      rw [c_swap (by omega) (by omega) (by omega), h]
      have := sw24_s (b := 0) (f := f) hr hq (show i < 24 by omega)
      rw [Nat.zero_add, Nat.zero_add] at this
      rw [this]
    have f1 : Fr [o + 4] M (va_up M.1 (o + 4) (sw24 0 f r q (i + 1)), M.2) := ⟨fun c hc => va_ne (by simpa using hc), rfl⟩
    obtain ⟨M', i1, i2, i3⟩ := ih n (i + 1) (va_up M.1 (o + 4) (sw24 0 f r q (i + 1)), M.2) (by omega) (by omega) (f1.st hS) va_eq
    refine ⟨M', ?_, f1.tr i2, i3⟩
    rw [f_X8_exchange_64, if_neg (show ¬ (24 : Int32) ≤ nI i from nI_ge (b := 24) (by omega) (by omega)), r4, z_rd_eq, show (nI r * 24 + nI i : Int32) = nI (24 * r + i) by simp only [lit, nI_mul, nI_add]; rw [Nat.mul_comm], show (nI q * 24 + nI i : Int32) = nI (24 * q + i) by simp only [lit, nI_mul, nI_add]; rw [Nat.mul_comm], e, z_call_eq, zl_eq, nI_1]
    exact i1
theorem c_exchange {M : zM} {o r q : Nat} {N : Nat → Nat} (hO : SO o) (hS : ST M) (hC : CS M o N) (hR : NR N) (hr : r < 24) (hq : q < 24) : ∃ M', f_X8_exchange o (nI r) (nI q) M = some ((), M') ∧ Fr (shc o) M M' ∧ CS M' o (exg N r q) := by
  obtain ⟨l1, l2, l3, l4, l5⟩ := hO.lns
  -- behind the guests
  have hx : ∃ M1, f_X8_exchange o (nI r) (nI q) M = f_X8_exchange_44 o (nI r) (nI q) M1 ∧ Fr [o] M M1 ∧ M1.1 o = va_up (M.1 o) 5 (nI (g_bits (exg N r q) 0 24)) := by
    have hb := exg_bits hR hr hq
    have b1 := hR.1 r hr
    have b2 := hR.1 q hq
    rw [f_X8_exchange, e_room hr, z_call_eq, if_neg (by decide), e_room hq, z_call_eq, if_neg (by decide), c_hasGuest hC hR hr, z_call_eq, c_hasGuest hC hR hq, z_call_eq]
    by_cases e : N r = N q
    · rw [if_pos e] at hb
      rw [if_pos (by rw [e])]
      exact ⟨M, rfl, Fr.rf, by rw [va_id (by rw [← hb]; exact hC.gl)]⟩
    · rw [if_neg e] at hb
      rw [if_neg (fun h => e ((nI_eq (by omega) (by omega)).mp h)), zl_eq, hC.gl, nI_bit r (by omega), nI_bit q (by omega), nI_or, nI_xor, hb]
      exact ⟨_, rfl, Fr.zu (by simp), zu_self _ _ _ _⟩
  obtain ⟨M1, a1, a2, a3⟩ := hx
  have s1 := a2.st hS
  obtain ⟨r1, r2, r3, r4, r5⟩ := hO.rs s1
  have f2 : Fr [o + 1] M1 (va_up M1.1 (o + 1) (swf (M1.1 (o + 1)) r q), M1.2) := ⟨fun c hc => va_ne (by simpa using hc), rfl⟩
  have s2 := f2.st s1
  obtain ⟨t1, t2, t3, t4, t5⟩ := hO.rs s2
  have f3 : Fr [o + 5] (va_up M1.1 (o + 1) (swf (M1.1 (o + 1)) r q), M1.2) (va_up (va_up M1.1 (o + 1) (swf (M1.1 (o + 1)) r q)) (o + 5) (swf (va_up M1.1 (o + 1) (swf (M1.1 (o + 1)) r q) (o + 5)) r q), M1.2) := ⟨fun c hc => va_ne (by simpa using hc), rfl⟩
  have s3 := f3.st s2
  obtain ⟨M4, b1, b2, b3⟩ := c_ex_lp (f := M.1 (o + 4)) hO hr hq 24 zF 0 _ (by omega) (by unfold zF; omega) s3 (by rw [f3.1 (o + 4) (by simp), f2.1 (o + 4) (by simp), a2.1 (o + 4) (by simp), sw24_0])
  have g0 : M4.1 o = va_up (M.1 o) 5 (nI (g_bits (exg N r q) 0 24)) := by rw [b2.1 o (by simp), f3.1 o (by simp), f2.1 o (by simp), a3]
  have g1 : M4.1 (o + 1) = swf (M.1 (o + 1)) r q := by
    rw [b2.1 (o + 1) (by simp), f3.1 (o + 1) (by simp)]
    show va_up M1.1 (o + 1) (swf (M1.1 (o + 1)) r q) (o + 1) = _
    rw [va_eq, a2.1 (o + 1) (by simp)]
  have g5 : M4.1 (o + 5) = swf (M.1 (o + 5)) r q := by
    rw [b2.1 (o + 5) (by simp)]
    show va_up (va_up M1.1 (o + 1) (swf (M1.1 (o + 1)) r q)) (o + 5) (swf (va_up M1.1 (o + 1) (swf (M1.1 (o + 1)) r q) (o + 5)) r q) (o + 5) = _
    rw [va_eq, va_ne (by omega), a2.1 (o + 5) (by simp)]
  have gc : ∀ c, c ≠ o → c ≠ o + 1 → c ≠ o + 4 → c ≠ o + 5 → M4.1 c = M.1 c := fun c h0 h1 h4 h5 => by
    rw [b2.1 c (by simpa using h4), f3.1 c (by simpa using h5), f2.1 c (by simpa using h1), a2.1 c (by simpa using h0)]
  refine ⟨M4, ?_, ⟨fun c hc => ?_, by rw [b2.2]; exact a2.2⟩, ?_⟩
  · rw [a1, f_X8_exchange_44, r1, z_rd_eq, c_swap (by omega) (by omega) (by omega), z_call_eq, t5, z_rd_eq, c_swap (by omega) (by omega) (by omega), z_call_eq]
    exact b1
  · unfold shc at hc
    simp only [List.mem_cons, List.not_mem_nil, or_false, not_or] at hc
    exact gc c (by omega) (by omega) (by omega) (by omega)
  · obtain ⟨h1, h2, h3, h4, h5, h6, h7, h8, h9, h10⟩ := hC
    refine ⟨fun x hx => ?_, fun x hx => ?_, fun x hx => ?_, fun k hk => ?_, fun x hx => ?_, ?_, ?_, ?_, ?_, ?_⟩
    · rw [g1, swf_rm, exg_s hx]; exact h1 _ (rm_lt hr hq hx)
    · rw [gc (o + 2) (by omega) (by omega) (by omega) (by omega), exg_o (by omega) (by omega)]; exact h2 x hx
    · rw [gc (o + 3) (by omega) (by omega) (by omega) (by omega), exg_o (by omega) (by omega)]; exact h3 x hx
    · have hx : k / 24 < 24 := by omega
      have hlt := rm_lt hr hq hx
      rw [b3]
      unfold sw24
      rw [if_pos (by omega), Nat.sub_zero, Nat.zero_add, show 120 + k = 120 + 24 * (k / 24) + k % 24 by omega, exg_f hx (by omega), Nat.add_assoc]
      exact h4 _ (by omega)
    · rw [g5, swf_rm, g_sum_sh (N := N) (b := 120 + 24 * rm r q x) (fun k hk => exg_f hx hk)]; exact h5 _ (rm_lt hr hq hx)
    · rw [g0, va_eq]
    · rw [g0, va_ne (by omega), g_bits_congr (N := N) (fun k hk => exg_o (by omega) (by omega))]; exact h7
    · rw [g0, va_ne (by omega), exg_o (by omega) (by omega)]; exact h8
    · rw [g0, va_ne (by omega), exg_o (by omega) (by omega)]; exact h9
    · rw [g0, va_ne (by omega), exg_o (by omega) (by omega)]; exact h10
theorem m_ch_lp {r q : Nat} {f : Nat → Int32} (hr : r < 24) (hq : q < 24) : ∀ m n i (M : zM), i + m = 24 → m < n → ST M → M.1 55 = sw24 120 f r q i → ∃ M', f_X12_changes_24 54 (nI r) (nI q) n (nI i) M = some ((), M') ∧ Fr [55] M M' ∧ M'.1 55 = sw24 120 f r q 24 := by
  intro m
  induction m with
  | zero =>
    intro n i M hi hn hS h
    obtain ⟨n, rfl⟩ : ∃ m, n = m + 1 := ⟨n - 1, by omega⟩
    obtain rfl : i = 24 := by omega
    exact ⟨M, by rw [f_X12_changes_24, if_pos (by decide)], Fr.rf, h⟩
  | succ m ih =>
    intro n i M hi hn hS h
    obtain ⟨n, rfl⟩ : ∃ m, n = m + 1 := ⟨n - 1, by omega⟩
    have e : f_X12_swaps 54 (nI (120 + 24 * r + i)) (nI (120 + 24 * q + i)) M = some ((), (va_up M.1 55 (sw24 120 f r q (i + 1)), M.2)) := by
      rw [m_swaps hS (by omega) (by omega), h, sw24_s hr hq (by omega)]
    have f1 : Fr [55] M (va_up M.1 55 (sw24 120 f r q (i + 1)), M.2) := ⟨fun c hc => va_ne (by simpa using hc), rfl⟩
    obtain ⟨M', i1, i2, i3⟩ := ih n (i + 1) (va_up M.1 55 (sw24 120 f r q (i + 1)), M.2) (by omega) (by omega) (f1.st hS) (va_eq (f := M.1) (k := 55))
    refine ⟨M', ?_, f1.tr i2, i3⟩
    rw [f_X12_changes_24, if_neg (show ¬ (24 : Int32) ≤ nI i from nI_ge (b := 24) (by omega) (by omega)), f_X12_felt, z_call_eq, f_X12_felt, z_call_eq, show (120 + 24 * nI r + nI i : Int32) = nI (120 + 24 * r + i) by simp only [lit, nI_mul, nI_add], show (120 + 24 * nI q + nI i : Int32) = nI (120 + 24 * q + i) by simp only [lit, nI_mul, nI_add], e, z_call_eq, zl_eq, nI_1]
    exact i1
theorem m_changes {M : zM} {r q : Nat} {N : Nat → Nat} (hS : ST M) (hN : MN M 55 N) (hr : r < 24) (hq : q < 24) : ∃ M', f_X12_changes 54 (nI r) (nI q) M = some ((), M') ∧ Fr [55] M M' ∧ MN M' 55 (exg N r q) := by
  have f1 : Fr [55] M (va_up M.1 55 (swf (M.1 55) r q), M.2) := ⟨fun c hc => va_ne (by simpa using hc), rfl⟩
  have f2 : Fr [55] M (va_up M.1 55 (swf (swf (M.1 55) r q) (24 + r) (24 + q)), M.2) := ⟨fun c hc => va_ne (by simpa using hc), rfl⟩
  have s1 := f1.st hS
  obtain ⟨M', i1, i2, i3⟩ := m_ch_lp (f := swf (swf (M.1 55) r q) (24 + r) (24 + q)) hr hq 24 zF 0 (va_up M.1 55 (swf (swf (M.1 55) r q) (24 + r) (24 + q)), M.2) (by omega) (by unfold zF; omega) (f2.st hS) (by rw [sw24_0]; exact va_eq (f := M.1) (k := 55))
  refine ⟨M', ?_, f2.tr i2, fun k hk => ?_⟩
  · rw [f_X12_changes, Int32.zero_add, Int32.zero_add, m_swaps hS (by omega) (by omega), z_call_eq, show (24 + nI r : Int32) = nI (24 + r) by simp only [lit, nI_add], show (24 + nI q : Int32) = nI (24 + q) by simp only [lit, nI_add], m_swaps s1 (by omega) (by omega), z_call_eq, ← i1]
    show f_X12_changes_24 54 (nI r) (nI q) zF 0 (va_up (va_up M.1 55 (swf (M.1 55) r q)) 55 (swf (va_up M.1 55 (swf (M.1 55) r q) 55) (24 + r) (24 + q)), M.2) = _
    rw [va_eq, va_va]
    rfl
  · rw [i3]
    unfold sw24
    by_cases z1 : 120 ≤ k ∧ k < 696
    · have hx : (k - 120) / 24 < 24 := by omega
      have hlt := rm_lt hr hq hx
      rw [if_pos (by omega), swf_o (by omega) (by omega), swf_o (by omega) (by omega), show exg N r q k = exg N r q (120 + 24 * ((k - 120) / 24) + (k - 120) % 24) by rw [show 120 + 24 * ((k - 120) / 24) + (k - 120) % 24 = k by omega], exg_f hx (by omega)]
      exact hN _ (by omega)
    · rw [if_neg (by omega)]
      by_cases z2 : k < 24
      · have hlt := rm_lt hr hq z2
        rw [swf_o (by omega) (by omega), swf_rm, exg_g z2]
        exact hN _ (by omega)
      · by_cases z3 : k < 48
        · have hx : k - 24 < 24 := by omega
          have hlt := rm_lt hr hq hx
          have e1 : rm (24 + r) (24 + q) k = 24 + rm r q (k - 24) := by
            unfold rm
            by_cases y1 : k = 24 + r
            · rw [if_pos y1, if_pos (by omega)]
            · rw [if_neg y1, if_neg (show ¬ k - 24 = r by omega)]
              by_cases y2 : k = 24 + q
              · rw [if_pos y2, if_pos (by omega)]
              · rw [if_neg y2, if_neg (show ¬ k - 24 = q by omega)]; omega
          rw [swf_rm, e1, swf_o (by omega) (by omega), show exg N r q k = exg N r q (24 + (k - 24)) by rw [show 24 + (k - 24) = k by omega], exg_s hx]
          exact hN _ (by omega)
        · rw [swf_o (by omega) (by omega), swf_o (by omega) (by omega), exg_o (by omega) (by omega)]
          exact hN k hk
theorem c_sendAway {M : zM} {o j : Nat} {N : Nat → Nat} (hO : SO o) (hS : ST M) (hC : CS M o N) (hR : NR N) (hj : j < 24) : ∃ M', f_X8_sendAway o (nI j) M = some ((), M') ∧ Fr (shc o) M M' ∧ CS M' o (gst N j 0 0) := by
  obtain ⟨l1, l2, l3, l4, l5⟩ := hO.lns
  obtain ⟨r1, r2, r3, r4, r5⟩ := hO.rs hS
  have hb : nI (g_bits N 0 24) &&& (nI (2 ^ j) ^^^ (-1)) = nI (g_bits (gst N j 0 0) 0 24) := by
    have := bits_clr (N := N) (b := 0) (j := j) (fun k hk => by rw [Nat.zero_add]; exact hR.1 k hk) hj
    rw [Nat.zero_add] at this
    rw [this, gst_bits hj]
  obtain ⟨M', h1, h2, h3, h4⟩ := c_forget_lp hO hj 24 zF 0 (zu (zu M.1 o 5 (nI (g_bits (gst N j 0 0) 0 24))) (o + 1) j (nI 0), M.2) (by omega) (by decide) (hS.to rfl)
  have hF : ∀ c, c ≠ o + 4 → c ≠ o + 5 → M'.1 c = zu (zu M.1 o 5 (nI (g_bits (gst N j 0 0) 0 24))) (o + 1) j (nI 0) c := fun c a b => h2.1 c (by simp [a, b])
  refine ⟨M', ?_, ⟨fun c hc => ?_, h2.2⟩, hC.gsts (M1 := M) hj ?_ ?_ ?_ ?_ (fun k => ?_) (fun r => ?_)⟩
  · rw [f_X8_sendAway, e_room hj, z_call_eq, if_neg (by decide), nI_bit j (by omega), hC.2.2.2.2.2.1, hb, zl_eq]
    show z_rd (M.2.1 o 0) _ = _
    rw [r1, z_rd_eq, if_pos (by rw [z_ixN (by omega), l1]; exact hj), zl_eq, nI_clamp (by omega), f_X8_forget]
    have h1' : f_X8_forget_2 o (nI j) zF 0 (zu (zu M.1 o 5 (nI (g_bits (gst N j 0 0) 0 24))) (o + 1) j 0, M.2) = some ((), M') := h1
    rw [h1', z_call_eq]
  · unfold shc at hc
    simp only [List.mem_cons, List.not_mem_nil, or_false, not_or] at hc
    rw [hF c (by omega) (by omega), zu_cell _ _ _ (by omega), zu_cell _ _ _ (by omega)]
  · rw [hF o (by omega) (by omega), zu_cell _ _ _ (by omega), zu_self]
  · rw [hF (o + 1) (by omega) (by omega), zu_self, zu_cell _ _ _ (by omega)]
  · rw [hF (o + 2) (by omega) (by omega), zu_cell _ _ _ (by omega), zu_cell _ _ _ (by omega)]
  · rw [hF (o + 3) (by omega) (by omega), zu_cell _ _ _ (by omega), zu_cell _ _ _ (by omega)]
  · rw [h3 k, Nat.add_zero]
    show (if _ then (0 : Int32) else zu (zu M.1 o 5 _) (o + 1) j (nI 0) (o + 4) k) = _
    rw [zu_cell _ _ _ (by omega), zu_cell _ _ _ (by omega)]
  · rw [h4 r]
    show (if _ then (0 : Int32) else zu (zu M.1 o 5 _) (o + 1) j (nI 0) (o + 5) r) = _
    rw [zu_cell _ _ _ (by omega), zu_cell _ _ _ (by omega)]
