/-! queries that change nothing -/
theorem hO3 : SO 3 := Or.inl rfl
theorem hO9 : SO 9 := Or.inr (Or.inl rfl)
theorem hO15 : SO 15 := Or.inr (Or.inr rfl)
theorem p_feels : ok_feels Inv := by
  intro M hI a b
  obtain ⟨N, K, hS, hR, hN, hC, hK, hT, hL⟩ := id hI
  rcases room_cases a with ⟨r, hr, rfl⟩ | ha
  · rcases room_cases b with ⟨q, hq, rfl⟩ | hb
    · refine ⟨nI (N (120 + 24 * r + q)), M, M, ?_, ?_, hI⟩
      · rw [f_X11_feels]
        (simp (disch := omega) only [z_rd_eq, z_call_eq, zl_eq, lit, nI_add, nI_mul, nI_div, nI_sub, nI_clamp, nI_leI, nI_ltI, nI_eq, z_ixN, ifTlt, ifFlt, ifTle, ifFle, ifTeq, ifFeq, if_true, if_false, e_room hr, e_room hq, (ST.a hS (o := 0) (k := 1) (a := 3) (by decide)), c_feelsOf hO3 hS hC hr hq]; try simp (disch := omega) only [ifTlt, ifFlt, ifTle, ifFle, ifTeq, ifFeq, if_true, if_false, z_call_eq, z_rd_eq, zl_eq])
      · rw [f_X12_feels]
        (simp (disch := omega) only [z_rd_eq, z_call_eq, zl_eq, lit, nI_add, nI_mul, nI_div, nI_sub, nI_clamp, nI_leI, nI_ltI, nI_eq, z_ixN, ifTlt, ifFlt, ifTle, ifFle, ifTeq, ifFeq, if_true, if_false, e_room2 hr, e_room2 hq, (ST.a hS (o := 54) (k := 0) (a := 55) (by decide)), f_X12_felt, ln55, hN (120 + 24 * r + q) (by omega)]; try simp (disch := omega) only [ifTlt, ifFlt, ifTle, ifFle, ifTeq, ifFeq, if_true, if_false, z_call_eq, z_rd_eq, zl_eq])
    · refine ⟨-1, M, M, ?_, ?_, hI⟩
      · rw [f_X11_feels]
        (simp (disch := omega) only [z_rd_eq, z_call_eq, zl_eq, lit, nI_add, nI_mul, nI_div, nI_sub, nI_clamp, nI_leI, nI_ltI, nI_eq, z_ixN, ifTlt, ifFlt, ifTle, ifFle, ifTeq, ifFeq, if_true, if_false, e_room hr, (hb M).1]; try simp (disch := omega) only [ifTlt, ifFlt, ifTle, ifFle, ifTeq, ifFeq, if_true, if_false, z_call_eq, z_rd_eq, zl_eq])
      · rw [f_X12_feels]
        (simp (disch := omega) only [z_rd_eq, z_call_eq, zl_eq, lit, nI_add, nI_mul, nI_div, nI_sub, nI_clamp, nI_leI, nI_ltI, nI_eq, z_ixN, ifTlt, ifFlt, ifTle, ifFle, ifTeq, ifFeq, if_true, if_false, e_room2 hr, (hb M).2]; try simp (disch := omega) only [ifTlt, ifFlt, ifTle, ifFle, ifTeq, ifFeq, if_true, if_false, z_call_eq, z_rd_eq, zl_eq])
  · refine ⟨-1, M, M, ?_, ?_, hI⟩
    · rw [f_X11_feels]
      (simp (disch := omega) only [z_rd_eq, z_call_eq, zl_eq, lit, nI_add, nI_mul, nI_div, nI_sub, nI_clamp, nI_leI, nI_ltI, nI_eq, z_ixN, ifTlt, ifFlt, ifTle, ifFle, ifTeq, ifFeq, if_true, if_false, (ha M).1]; try simp (disch := omega) only [ifTlt, ifFlt, ifTle, ifFle, ifTeq, ifFeq, if_true, if_false, z_call_eq, z_rd_eq, zl_eq])
    · rw [f_X12_feels]
      (simp (disch := omega) only [z_rd_eq, z_call_eq, zl_eq, lit, nI_add, nI_mul, nI_div, nI_sub, nI_clamp, nI_leI, nI_ltI, nI_eq, z_ixN, ifTlt, ifFlt, ifTle, ifFle, ifTeq, ifFeq, if_true, if_false, (ha M).2]; try simp (disch := omega) only [ifTlt, ifFlt, ifTle, ifFle, ifTeq, ifFeq, if_true, if_false, z_call_eq, z_rd_eq, zl_eq])
/-- where the greatest of the first n stands, the lowest of like ones -/
def amx (F : Nat → Nat) : Nat → Nat
  | 0 => 0
  | n + 1 => if F (amx F n) < F n then n else amx F n
theorem amx_lt {F : Nat → Nat} : ∀ n, 0 < n → amx F n < n := by
  intro n
  induction n with
  | zero => intro h; omega
  | succ n ih =>
    intro _
    simp only [amx]
    split
    · omega
    · rcases Nat.eq_zero_or_pos n with h | h
      · subst h; simp [amx]
      · have := ih h; omega
theorem amx_ge {F : Nat → Nat} : ∀ n k, k < n → F k ≤ F (amx F n) := by
  intro n
  induction n with
  | zero => intro k h; omega
  | succ n ih =>
    intro k hk
    simp only [amx]
    split
    next h =>
      rcases (show k < n ∨ k = n by omega) with h1 | h1
      · have := ih k h1; omega
      · subst h1; exact Nat.le_refl _
    next h =>
      rcases (show k < n ∨ k = n by omega) with h1 | h1
      · exact ih k h1
      · subst h1; omega
theorem amx_1 {F : Nat → Nat} : amx F 1 = 0 := by simp [amx]
/-- the row of what a room feels -/
def gF (N : Nat → Nat) (r : Nat) : Nat → Nat := fun q => N (120 + 24 * r + q)
theorem c_mostFeltBy_lp {M : zM} {o : Nat} {N : Nat → Nat} (hO : SO o) (hS : ST M) (hC : CS M o N) (hR : NR N) {r : Nat} (hr : r < 24) : ∀ k n i, 0 < i → i + k = 24 → k < n → f_X8_mostFeltBy_4 o (nI r) n (nI (amx (gF N r) i)) (nI i) M = some (nI (amx (gF N r) 24), M) := by
  intro k
  induction k with
  | zero =>
    intro n i h0 hi hn
    obtain ⟨n, rfl⟩ : ∃ m, n = m + 1 := ⟨n - 1, by omega⟩
    obtain rfl : i = 24 := by omega
    rw [f_X8_mostFeltBy_4]
    (simp (disch := omega) only [z_rd_eq, z_call_eq, zl_eq, lit, nI_add, nI_mul, nI_div, nI_sub, nI_clamp, nI_leI, nI_ltI, nI_eq, z_ixN, ifTlt, ifFlt, ifTle, ifFle, ifTeq, ifFeq, if_true, if_false]; try simp (disch := omega) only [ifTlt, ifFlt, ifTle, ifFle, ifTeq, ifFeq, if_true, if_false, z_call_eq, z_rd_eq, zl_eq])
  | succ k ih =>
    intro n i h0 hi hn
    obtain ⟨n, rfl⟩ : ∃ m, n = m + 1 := ⟨n - 1, by omega⟩
    have ha := amx_lt (F := gF N r) i h0
    have v1 := hR.2.2.2.2.2.1 (24 * r + i) (by omega)
    have v2 := hR.2.2.2.2.2.1 (24 * r + amx (gF N r) i) (by omega)
    rw [← Nat.add_assoc] at v1 v2
    have key := ih n (i + 1) (by omega) (by omega) (by omega)
    rw [f_X8_mostFeltBy_4]
    (simp (disch := omega) only [z_rd_eq, z_call_eq, zl_eq, lit, nI_add, nI_mul, nI_div, nI_sub, nI_clamp, nI_leI, nI_ltI, nI_eq, z_ixN, ifTlt, ifFlt, ifTle, ifFle, ifTeq, ifFeq, if_true, if_false, c_feelsOf hO hS hC hr (show i < 24 by omega), c_feelsOf hO hS hC hr (show amx (gF N r) i < 24 by omega), f_X8_mostFeltBy_27]; try simp (disch := omega) only [ifTlt, ifFlt, ifTle, ifFle, ifTeq, ifFeq, if_true, if_false, z_call_eq, z_rd_eq, zl_eq])
    by_cases h : N (120 + 24 * r + i) ≤ N (120 + 24 * r + amx (gF N r) i)
    · rw [if_pos h]
      have e : amx (gF N r) (i + 1) = amx (gF N r) i := by simp only [amx]; rw [if_neg]; exact Nat.not_lt.mpr h
      rw [e] at key
      exact key
    · rw [if_neg h]
      have e : amx (gF N r) (i + 1) = i := by simp only [amx]; rw [if_pos]; exact Nat.lt_of_not_le h
      rw [e] at key
      exact key
theorem c_mostFeltBy {M : zM} {o : Nat} {N : Nat → Nat} (hO : SO o) (hS : ST M) (hC : CS M o N) (hR : NR N) {r : Nat} (hr : r < 24) : f_X8_mostFeltBy o (nI r) M = some (nI (amx (gF N r) 24), M) := by
  have h := c_mostFeltBy_lp hO hS hC hR hr 23 zF 1 (by omega) (by omega) (by decide)
  rw [amx_1] at h
  exact h
/-- the same with -2 where all is nothing -/
def bmx (F : Nat → Nat) (i : Nat) : Int32 := if i = 0 ∨ F (amx F i) = 0 then -2 else nI (amx F i)
theorem nI_ne2 {a : Nat} (h : a < 2 ^ 31) : ¬ nI a = -2 := by
  intro e
  have h1 := congrArg Int32.toInt e
  rw [nI_toInt h] at h1
  have h2 : (-2 : Int32).toInt = -2 := by decide
  rw [h2] at h1
  omega
theorem nI_ne2' {a : Nat} (h : a < 2 ^ 31) : ¬ nI a = -nI 2 := nI_ne2 h
theorem m_feltMost_lp {M : zM} {N : Nat → Nat} (hS : ST M) (hN : MN M 55 N) (hR : NR N) {r : Nat} (hr : r < 24) : ∀ k n i, i + k = 24 → k < n → f_X12_feltMost_5 54 (nI r) n (bmx (gF N r) i) (nI i) M = some (bmx (gF N r) 24, M) := by
  intro k
  induction k with
  | zero =>
    intro n i hi hn
    obtain ⟨n, rfl⟩ : ∃ m, n = m + 1 := ⟨n - 1, by omega⟩
    obtain rfl : i = 24 := by omega
    rw [f_X12_feltMost_5]
    (simp (disch := omega) only [z_rd_eq, z_call_eq, zl_eq, lit, nI_add, nI_mul, nI_div, nI_sub, nI_clamp, nI_leI, nI_ltI, nI_eq, z_ixN, ifTlt, ifFlt, ifTle, ifFle, ifTeq, ifFeq, if_true, if_false]; try simp (disch := omega) only [ifTlt, ifFlt, ifTle, ifFle, ifTeq, ifFeq, if_true, if_false, z_call_eq, z_rd_eq, zl_eq])
  | succ k ih =>
    intro n i hi hn
    obtain ⟨n, rfl⟩ : ∃ m, n = m + 1 := ⟨n - 1, by omega⟩
    have v1 := hR.2.2.2.2.2.1 (24 * r + i) (by omega)
    rw [← Nat.add_assoc] at v1
    have key := ih n (i + 1) (by omega) (by omega)
    rw [f_X12_feltMost_5]
    (simp (disch := omega) only [z_rd_eq, z_call_eq, zl_eq, lit, nI_add, nI_mul, nI_div, nI_sub, nI_clamp, nI_leI, nI_ltI, nI_eq, z_ixN, ifTlt, ifFlt, ifTle, ifFle, ifTeq, ifFeq, if_true, if_false, (ST.a hS (o := 54) (k := 0) (a := 55) (by decide)), f_X12_felt, ln55, hN (120 + 24 * r + i) (by omega), f_X12_feltMost_55, f_X12_feltMost_53]; try simp (disch := omega) only [ifTlt, ifFlt, ifTle, ifFle, ifTeq, ifFeq, if_true, if_false, z_call_eq, z_rd_eq, zl_eq])
    by_cases h : N (120 + 24 * r + i) ≤ 0
    · rw [if_pos h]
      have e : bmx (gF N r) (i + 1) = bmx (gF N r) i := by
        have h0 : gF N r i = 0 := by show N (120 + 24 * r + i) = 0; omega
        have h1 : amx (gF N r) (i + 1) = amx (gF N r) i := by simp only [amx]; rw [if_neg]; rw [h0]; omega
        unfold bmx
        rw [h1]
        rcases Nat.eq_zero_or_pos i with hz | hz
        · subst hz; simp [amx, h0]
        · simp [Nat.ne_of_gt hz]
      rw [e] at key
      exact key
    · rw [if_neg h]
      by_cases hb : i = 0 ∨ gF N r (amx (gF N r) i) = 0
      · have e0 : bmx (gF N r) i = -2 := by unfold bmx; rw [if_pos hb]
        have e1 : bmx (gF N r) (i + 1) = nI i := by
          unfold bmx
          have h1 : amx (gF N r) (i + 1) = i := by
            simp only [amx]
            rcases hb with hb | hb
            · subst hb; simp [amx]
            · rw [if_pos]; rw [hb]; show 0 < N (120 + 24 * r + i); omega
          rw [h1, if_neg]
          show ¬ (i + 1 = 0 ∨ N (120 + 24 * r + i) = 0)
          omega
        rw [e1] at key
        rw [e0, if_pos (by rfl)]
        exact key
      · have hi0 : 0 < i := by omega
        have ha := amx_lt (F := gF N r) i hi0
        have v2 := hR.2.2.2.2.2.1 (24 * r + amx (gF N r) i) (by omega)
        rw [← Nat.add_assoc] at v2
        have e0 : bmx (gF N r) i = nI (amx (gF N r) i) := by unfold bmx; rw [if_neg hb]
        rw [e0, if_neg (nI_ne2' (show amx (gF N r) i < 2 ^ 31 by omega))]
        (simp (disch := omega) only [z_rd_eq, z_call_eq, zl_eq, lit, nI_add, nI_mul, nI_div, nI_sub, nI_clamp, nI_leI, nI_ltI, nI_eq, z_ixN, ifTlt, ifFlt, ifTle, ifFle, ifTeq, ifFeq, if_true, if_false, ln55, hN (120 + 24 * r + amx (gF N r) i) (by omega)]; try simp (disch := omega) only [ifTlt, ifFlt, ifTle, ifFle, ifTeq, ifFeq, if_true, if_false, z_call_eq, z_rd_eq, zl_eq])
        by_cases h2 : N (120 + 24 * r + i) ≤ N (120 + 24 * r + amx (gF N r) i)
        · rw [if_pos h2]
          have e1 : bmx (gF N r) (i + 1) = nI (amx (gF N r) i) := by
            unfold bmx
            have h1 : amx (gF N r) (i + 1) = amx (gF N r) i := by simp only [amx]; rw [if_neg]; exact Nat.not_lt.mpr h2
            rw [h1, if_neg]
            show ¬ (i + 1 = 0 ∨ gF N r (amx (gF N r) i) = 0)
            omega
          rw [e1] at key
          exact key
        · rw [if_neg h2]
          have e1 : bmx (gF N r) (i + 1) = nI i := by
            unfold bmx
            have h1 : amx (gF N r) (i + 1) = i := by simp only [amx]; rw [if_pos]; exact Nat.lt_of_not_le h2
            rw [h1, if_neg]
            show ¬ (i + 1 = 0 ∨ N (120 + 24 * r + i) = 0)
            omega
          rw [e1] at key
          exact key
theorem m_feltMost {M : zM} {N : Nat → Nat} (hS : ST M) (hN : MN M 55 N) (hR : NR N) {r : Nat} (hr : r < 24) : f_X12_feltMost 54 (nI r) M = some (bmx (gF N r) 24, M) := m_feltMost_lp hS hN hR hr 24 zF 0 (by omega) (by decide)
theorem g_sum_0 {N : Nat → Nat} {b n : Nat} : g_sum N b n = 0 ↔ ∀ k, k < n → N (b + k) = 0 := by
  induction n with
  | zero => simp [g_sum]
  | succ n ih =>
    simp only [g_sum]
    constructor
    · intro h k hk
      rcases (show k < n ∨ k = n by omega) with h1 | h1
      · exact ih.mp (by omega) k h1
      · subst h1; omega
    · intro h
      rw [ih.mpr (fun k hk => h k (by omega)), h n (by omega)]
theorem sum_amx {N : Nat → Nat} {r : Nat} : g_sum N (120 + 24 * r) 24 = 0 ↔ gF N r (amx (gF N r) 24) = 0 := by
  rw [g_sum_0]
  constructor
  · intro h; exact h _ (amx_lt 24 (by omega))
  · intro h k hk
    have := amx_ge (F := gF N r) 24 k hk
    rw [h] at this
    show gF N r k = 0
    omega
theorem what_cases (x : Int32) : x = 0 ∨ x = 1 ∨ x = 2 ∨ x = 3 ∨ x = 4 ∨ x = 5 ∨ x = 6 ∨ x = 7 ∨ x = 8 ∨ (¬ x = 0 ∧ ¬ x = 1 ∧ ¬ x = 2 ∧ ¬ x = 3 ∧ ¬ x = 4 ∧ ¬ x = 5 ∧ ¬ x = 6 ∧ ¬ x = 7 ∧ ¬ x = 8) := by
  by_cases h0 : x = 0
  · exact Or.inl h0
  by_cases h1 : x = 1
  · exact Or.inr (Or.inl h1)
  by_cases h2 : x = 2
  · exact Or.inr (Or.inr (Or.inl h2))
  by_cases h3 : x = 3
  · exact Or.inr (Or.inr (Or.inr (Or.inl h3)))
  by_cases h4 : x = 4
  · exact Or.inr (Or.inr (Or.inr (Or.inr (Or.inl h4))))
  by_cases h5 : x = 5
  · exact Or.inr (Or.inr (Or.inr (Or.inr (Or.inr (Or.inl h5)))))
  by_cases h6 : x = 6
  · exact Or.inr (Or.inr (Or.inr (Or.inr (Or.inr (Or.inr (Or.inl h6))))))
  by_cases h7 : x = 7
  · exact Or.inr (Or.inr (Or.inr (Or.inr (Or.inr (Or.inr (Or.inr (Or.inl h7)))))))
  by_cases h8 : x = 8
  · exact Or.inr (Or.inr (Or.inr (Or.inr (Or.inr (Or.inr (Or.inr (Or.inr (Or.inl h8))))))))
  exact Or.inr (Or.inr (Or.inr (Or.inr (Or.inr (Or.inr (Or.inr (Or.inr (Or.inr ⟨h0, h1, h2, h3, h4, h5, h6, h7, h8⟩))))))))
theorem ln4 : z_ln SH 4 = 24 := by decide
theorem ln5 : z_ln SH 5 = 24 := by decide
theorem ln6 : z_ln SH 6 = 24 := by decide
theorem ln7 : z_ln SH 7 = 576 := by decide
theorem ln8 : z_ln SH 8 = 24 := by decide
theorem p_roomIs : ok_roomIs Inv := by
  intro M hI a b
  obtain ⟨N, K, hS, hR, hN, hC, hK, hT, hL⟩ := id hI
  rcases room_cases a with ⟨r, hr, rfl⟩ | ha
  · have k1 := hR.1 r hr
    have k2 := hR.2.2.1 r hr
    have km := amx_lt (F := gF N r) 24 (by omega)
    have ks : g_sum N (120 + 24 * r) 24 ≤ 24 * 99999 := g_sum_le (fun k hk => by have := hR.2.2.2.2.2.1 (24 * r + k) (by omega); rw [← Nat.add_assoc] at this; exact this)
    have q1 : M.1 4 r = nI (N (24 + r)) := hC.1 r hr
    have q2 : M.1 5 r = nI (N (72 + r)) := hC.2.1 r hr
    have q3 : M.1 6 r = nI (N (96 + r)) := hC.2.2.1 r hr
    have q5 : M.1 8 r = nI (g_sum N (120 + 24 * r) 24) := hC.2.2.2.2.1 r hr
    rcases what_cases b with rfl | rfl | rfl | rfl | rfl | rfl | rfl | rfl | rfl | ⟨h0, h1, h2, h3, h4, h5, h6, h7, h8⟩
    · refine ⟨if N r = 1 then nI (N (24 + r)) else -2, M, M, ?_, ?_, hI⟩
      · rw [f_X11_roomIs]
        (simp (disch := omega) only [z_rd_eq, z_call_eq, zl_eq, lit, nI_add, nI_mul, nI_div, nI_sub, nI_clamp, nI_leI, nI_ltI, nI_eq, z_ixN, ifTlt, ifFlt, ifTle, ifFle, ifTeq, ifFeq, if_true, if_false, e_room hr, (ST.a hS (o := 0) (k := 1) (a := 3) (by decide)), (ST.a hS (o := 3) (k := 0) (a := 4) (by decide)), ln4, c_hasGuest hC hR hr, q1]; try simp (disch := omega) only [ifTlt, ifFlt, ifTle, ifFle, ifTeq, ifFeq, if_true, if_false, z_call_eq, z_rd_eq, zl_eq])
        rcases (show N r = 0 ∨ N r = 1 by omega) with h | h <;> simp [h]
      · rw [f_X12_roomIs]
        (simp (disch := omega) only [z_rd_eq, z_call_eq, zl_eq, lit, nI_add, nI_mul, nI_div, nI_sub, nI_clamp, nI_leI, nI_ltI, nI_eq, z_ixN, ifTlt, ifFlt, ifTle, ifFle, ifTeq, ifFeq, if_true, if_false, e_room2 hr, (ST.a hS (o := 54) (k := 0) (a := 55) (by decide)), ln55, m_feltMost hS hN hR hr, Nat.zero_add, hN r (by omega), hN (24 + r) (by omega)]; try simp (disch := omega) only [ifTlt, ifFlt, ifTle, ifFle, ifTeq, ifFeq, if_true, if_false, z_call_eq, z_rd_eq, zl_eq])
        rcases (show N r = 0 ∨ N r = 1 by omega) with h | h <;> simp [h]
    · refine ⟨nI (N r), M, M, ?_, ?_, hI⟩
      · rw [f_X11_roomIs]
        (simp (disch := omega) only [z_rd_eq, z_call_eq, zl_eq, lit, nI_add, nI_mul, nI_div, nI_sub, nI_clamp, nI_leI, nI_ltI, nI_eq, z_ixN, ifTlt, ifFlt, ifTle, ifFle, ifTeq, ifFeq, if_true, if_false, e_room hr, (ST.a hS (o := 0) (k := 1) (a := 3) (by decide)), c_hasGuest hC hR hr]; try simp (disch := omega) only [ifTlt, ifFlt, ifTle, ifFle, ifTeq, ifFeq, if_true, if_false, z_call_eq, z_rd_eq, zl_eq])
        rcases (show N r = 0 ∨ N r = 1 by omega) with h | h <;> simp [h]
      · rw [f_X12_roomIs]
        (simp (disch := omega) only [z_rd_eq, z_call_eq, zl_eq, lit, nI_add, nI_mul, nI_div, nI_sub, nI_clamp, nI_leI, nI_ltI, nI_eq, z_ixN, ifTlt, ifFlt, ifTle, ifFle, ifTeq, ifFeq, if_true, if_false, e_room2 hr, (ST.a hS (o := 54) (k := 0) (a := 55) (by decide)), ln55, m_feltMost hS hN hR hr, Nat.zero_add, hN r (by omega)]; try simp (disch := omega) only [ifTlt, ifFlt, ifTle, ifFle, ifTeq, ifFeq, if_true, if_false, z_call_eq, z_rd_eq, zl_eq])
    · refine ⟨nI (N (48 + r)), M, M, ?_, ?_, hI⟩
      · rw [f_X11_roomIs]
        (simp (disch := omega) only [z_rd_eq, z_call_eq, zl_eq, lit, nI_add, nI_mul, nI_div, nI_sub, nI_clamp, nI_leI, nI_ltI, nI_eq, z_ixN, ifTlt, ifFlt, ifTle, ifFle, ifTeq, ifFeq, if_true, if_false, e_room hr, (ST.a hS (o := 0) (k := 1) (a := 3) (by decide)), c_isOpen hC hR hr]; try simp (disch := omega) only [ifTlt, ifFlt, ifTle, ifFle, ifTeq, ifFeq, if_true, if_false, z_call_eq, z_rd_eq, zl_eq])
        rcases (show N (48 + r) = 0 ∨ N (48 + r) = 1 by omega) with h | h <;> simp [h]
      · rw [f_X12_roomIs]
        (simp (disch := omega) only [z_rd_eq, z_call_eq, zl_eq, lit, nI_add, nI_mul, nI_div, nI_sub, nI_clamp, nI_leI, nI_ltI, nI_eq, z_ixN, ifTlt, ifFlt, ifTle, ifFle, ifTeq, ifFeq, if_true, if_false, e_room2 hr, (ST.a hS (o := 54) (k := 0) (a := 55) (by decide)), ln55, m_feltMost hS hN hR hr, hN (48 + r) (by omega)]; try simp (disch := omega) only [ifTlt, ifFlt, ifTle, ifFle, ifTeq, ifFeq, if_true, if_false, z_call_eq, z_rd_eq, zl_eq])
    · refine ⟨nI (N (72 + r)), M, M, ?_, ?_, hI⟩
      · rw [f_X11_roomIs]
        (simp (disch := omega) only [z_rd_eq, z_call_eq, zl_eq, lit, nI_add, nI_mul, nI_div, nI_sub, nI_clamp, nI_leI, nI_ltI, nI_eq, z_ixN, ifTlt, ifFlt, ifTle, ifFle, ifTeq, ifFeq, if_true, if_false, e_room hr, (ST.a hS (o := 0) (k := 1) (a := 3) (by decide)), (ST.a hS (o := 3) (k := 1) (a := 5) (by decide)), ln5, q2]; try simp (disch := omega) only [ifTlt, ifFlt, ifTle, ifFle, ifTeq, ifFeq, if_true, if_false, z_call_eq, z_rd_eq, zl_eq])
      · rw [f_X12_roomIs]
        (simp (disch := omega) only [z_rd_eq, z_call_eq, zl_eq, lit, nI_add, nI_mul, nI_div, nI_sub, nI_clamp, nI_leI, nI_ltI, nI_eq, z_ixN, ifTlt, ifFlt, ifTle, ifFle, ifTeq, ifFeq, if_true, if_false, e_room2 hr, (ST.a hS (o := 54) (k := 0) (a := 55) (by decide)), ln55, m_feltMost hS hN hR hr, hN (72 + r) (by omega)]; try simp (disch := omega) only [ifTlt, ifFlt, ifTle, ifFle, ifTeq, ifFeq, if_true, if_false, z_call_eq, z_rd_eq, zl_eq])
    · refine ⟨nI (N (96 + r)), M, M, ?_, ?_, hI⟩
      · rw [f_X11_roomIs]
        (simp (disch := omega) only [z_rd_eq, z_call_eq, zl_eq, lit, nI_add, nI_mul, nI_div, nI_sub, nI_clamp, nI_leI, nI_ltI, nI_eq, z_ixN, ifTlt, ifFlt, ifTle, ifFle, ifTeq, ifFeq, if_true, if_false, e_room hr, (ST.a hS (o := 0) (k := 1) (a := 3) (by decide)), (ST.a hS (o := 3) (k := 2) (a := 6) (by decide)), ln6, q3]; try simp (disch := omega) only [ifTlt, ifFlt, ifTle, ifFle, ifTeq, ifFeq, if_true, if_false, z_call_eq, z_rd_eq, zl_eq])
      · rw [f_X12_roomIs]
        (simp (disch := omega) only [z_rd_eq, z_call_eq, zl_eq, lit, nI_add, nI_mul, nI_div, nI_sub, nI_clamp, nI_leI, nI_ltI, nI_eq, z_ixN, ifTlt, ifFlt, ifTle, ifFle, ifTeq, ifFeq, if_true, if_false, e_room2 hr, (ST.a hS (o := 54) (k := 0) (a := 55) (by decide)), ln55, m_feltMost hS hN hR hr, hN (96 + r) (by omega)]; try simp (disch := omega) only [ifTlt, ifFlt, ifTle, ifFle, ifTeq, ifFeq, if_true, if_false, z_call_eq, z_rd_eq, zl_eq])
    · refine ⟨nI (g_sum N (120 + 24 * r) 24), M, M, ?_, ?_, hI⟩
      · rw [f_X11_roomIs]
        (simp (disch := omega) only [z_rd_eq, z_call_eq, zl_eq, lit, nI_add, nI_mul, nI_div, nI_sub, nI_clamp, nI_leI, nI_ltI, nI_eq, z_ixN, ifTlt, ifFlt, ifTle, ifFle, ifTeq, ifFeq, if_true, if_false, e_room hr, (ST.a hS (o := 0) (k := 1) (a := 3) (by decide)), (ST.a hS (o := 3) (k := 4) (a := 8) (by decide)), ln8, q5]; try simp (disch := omega) only [ifTlt, ifFlt, ifTle, ifFle, ifTeq, ifFeq, if_true, if_false, z_call_eq, z_rd_eq, zl_eq])
      · rw [f_X12_roomIs]
        (simp (disch := omega) only [z_rd_eq, z_call_eq, zl_eq, lit, nI_add, nI_mul, nI_div, nI_sub, nI_clamp, nI_leI, nI_ltI, nI_eq, z_ixN, ifTlt, ifFlt, ifTle, ifFle, ifTeq, ifFeq, if_true, if_false, e_room2 hr, (ST.a hS (o := 54) (k := 0) (a := 55) (by decide)), ln55, m_feltMost hS hN hR hr, m_feltIn hS hN hr]; try simp (disch := omega) only [ifTlt, ifFlt, ifTle, ifFle, ifTeq, ifFeq, if_true, if_false, z_call_eq, z_rd_eq, zl_eq])
    · refine ⟨nI (gF N r (amx (gF N r) 24)), M, M, ?_, ?_, hI⟩
      · rw [f_X11_roomIs]
        (simp (disch := omega) only [z_rd_eq, z_call_eq, zl_eq, lit, nI_add, nI_mul, nI_div, nI_sub, nI_clamp, nI_leI, nI_ltI, nI_eq, z_ixN, ifTlt, ifFlt, ifTle, ifFle, ifTeq, ifFeq, if_true, if_false, e_room hr, (ST.a hS (o := 0) (k := 1) (a := 3) (by decide)), c_mostFeltBy hO3 hS hC hR hr, c_feelsOf hO3 hS hC hr km]; try simp (disch := omega) only [ifTlt, ifFlt, ifTle, ifFle, ifTeq, ifFeq, if_true, if_false, z_call_eq, z_rd_eq, zl_eq])
        rfl
      · rw [f_X12_roomIs]
        (simp (disch := omega) only [z_rd_eq, z_call_eq, zl_eq, lit, nI_add, nI_mul, nI_div, nI_sub, nI_clamp, nI_leI, nI_ltI, nI_eq, z_ixN, ifTlt, ifFlt, ifTle, ifFle, ifTeq, ifFeq, if_true, if_false, e_room2 hr, (ST.a hS (o := 54) (k := 0) (a := 55) (by decide)), ln55, m_feltMost hS hN hR hr]; try simp (disch := omega) only [ifTlt, ifFlt, ifTle, ifFle, ifTeq, ifFeq, if_true, if_false, z_call_eq, z_rd_eq, zl_eq])
        by_cases h : gF N r (amx (gF N r) 24) = 0
        · rw [show bmx (gF N r) 24 = -nI 2 by unfold bmx; rw [if_pos (Or.inr h)]; rfl, if_pos rfl, h]
        · rw [show bmx (gF N r) 24 = nI (amx (gF N r) 24) by unfold bmx; rw [if_neg (by omega)], if_neg (nI_ne2' (show amx (gF N r) 24 < 2 ^ 31 by omega)), f_X12_felt]
          (simp (disch := omega) only [z_rd_eq, z_call_eq, zl_eq, lit, nI_add, nI_mul, nI_div, nI_sub, nI_clamp, nI_leI, nI_ltI, nI_eq, z_ixN, ifTlt, ifFlt, ifTle, ifFle, ifTeq, ifFeq, if_true, if_false, ln55, hN (120 + 24 * r + amx (gF N r) 24) (by omega)]; try simp (disch := omega) only [ifTlt, ifFlt, ifTle, ifFle, ifTeq, ifFeq, if_true, if_false, z_call_eq, z_rd_eq, zl_eq])
          rfl
    · refine ⟨bmx (gF N r) 24, M, M, ?_, ?_, hI⟩
      · rw [f_X11_roomIs]
        (simp (disch := omega) only [z_rd_eq, z_call_eq, zl_eq, lit, nI_add, nI_mul, nI_div, nI_sub, nI_clamp, nI_leI, nI_ltI, nI_eq, z_ixN, ifTlt, ifFlt, ifTle, ifFle, ifTeq, ifFeq, if_true, if_false, e_room hr, (ST.a hS (o := 0) (k := 1) (a := 3) (by decide)), (ST.a hS (o := 3) (k := 4) (a := 8) (by decide)), ln8, q5, c_mostFeltBy hO3 hS hC hR hr]; try simp (disch := omega) only [ifTlt, ifFlt, ifTle, ifFle, ifTeq, ifFeq, if_true, if_false, z_call_eq, z_rd_eq, zl_eq])
        by_cases h : gF N r (amx (gF N r) 24) = 0
        · rw [if_pos (sum_amx.mpr h)]
          unfold bmx
          rw [if_pos (Or.inr h)]
          rfl
        · rw [if_neg (fun e => h (sum_amx.mp e))]
          unfold bmx
          rw [if_neg (by omega)]
      · rw [f_X12_roomIs]
        (simp (disch := omega) only [z_rd_eq, z_call_eq, zl_eq, lit, nI_add, nI_mul, nI_div, nI_sub, nI_clamp, nI_leI, nI_ltI, nI_eq, z_ixN, ifTlt, ifFlt, ifTle, ifFle, ifTeq, ifFeq, if_true, if_false, e_room2 hr, m_feltMost hS hN hR hr]; try simp (disch := omega) only [ifTlt, ifFlt, ifTle, ifFle, ifTeq, ifFeq, if_true, if_false, z_call_eq, z_rd_eq, zl_eq])
    · refine ⟨-1, M, M, ?_, ?_, hI⟩
      · rw [f_X11_roomIs]
        (simp (disch := omega) only [z_rd_eq, z_call_eq, zl_eq, lit, nI_add, nI_mul, nI_div, nI_sub, nI_clamp, nI_leI, nI_ltI, nI_eq, z_ixN, ifTlt, ifFlt, ifTle, ifFle, ifTeq, ifFeq, if_true, if_false, e_room hr]; try simp (disch := omega) only [ifTlt, ifFlt, ifTle, ifFle, ifTeq, ifFeq, if_true, if_false, z_call_eq, z_rd_eq, zl_eq])
      · rw [f_X12_roomIs]
        (simp (disch := omega) only [z_rd_eq, z_call_eq, zl_eq, lit, nI_add, nI_mul, nI_div, nI_sub, nI_clamp, nI_leI, nI_ltI, nI_eq, z_ixN, ifTlt, ifFlt, ifTle, ifFle, ifTeq, ifFeq, if_true, if_false, e_room2 hr, m_feltMost hS hN hR hr]; try simp (disch := omega) only [ifTlt, ifFlt, ifTle, ifFle, ifTeq, ifFeq, if_true, if_false, z_call_eq, z_rd_eq, zl_eq])
    · refine ⟨-1, M, M, ?_, ?_, hI⟩
      · rw [f_X11_roomIs, e_room hr, z_call_eq, if_neg (by decide), if_neg h0, if_neg h1, if_neg h2, if_neg h3, if_neg h4, if_neg h5, if_neg h6, if_neg h7]
      · rw [f_X12_roomIs, e_room2 hr, z_call_eq, if_neg (by decide), m_feltMost hS hN hR hr, z_call_eq, if_neg h0, if_neg h1, if_neg h2, if_neg h3, if_neg h4, if_neg h5, if_neg h6, if_neg h7]
  · refine ⟨-1, M, M, ?_, ?_, hI⟩
    · rw [f_X11_roomIs, (ha M).1, z_call_eq, if_pos rfl]
    · rw [f_X12_roomIs, (ha M).2, z_call_eq, if_pos rfl]
