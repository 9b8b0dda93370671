/-! count, breakfast, way -/
theorem p_count : ok_count Inv := by
  intro M hI b
  obtain ⟨N, K, hS, hR, hN, hC, hK, ⟨n, hn, t1, t2, t3⟩, hL⟩ := id hI
  obtain ⟨q, hq, l1, l2, nc, nr, n1, n2, s1, s2, s3, s4⟩ := id hL
  obtain ⟨c1, c2, c3, c4, c5, c6, c7, c8, c9, c10⟩ := id hC
  rcases what_cases b with rfl | rfl | rfl | rfl | rfl | rfl | rfl | rfl | rfl | ⟨h0, h1, h2, h3, h4, h5, h6, h7, h8⟩
  · refine ⟨nI (N 697), M, M, ?_, ?_, hI⟩
    · rw [f_X11_count]
      (simp (disch := omega) only [z_rd_eq, z_call_eq, zl_eq, lit, nI_add, nI_mul, nI_div, nI_sub, nI_clamp, nI_leI, nI_ltI, nI_eq, z_ixN, ifTlt, ifFlt, ifTle, ifFle, ifTeq, ifFeq, if_true, if_false, (ST.a hS (o := 0) (k := 1) (a := 3) (by decide)), c9]; try simp (disch := omega) only [ifTlt, ifFlt, ifTle, ifFle, ifTeq, ifFeq, if_true, if_false, z_call_eq, z_rd_eq, zl_eq])
    · rw [f_X12_count]
      (simp (disch := omega) only [z_rd_eq, z_call_eq, zl_eq, lit, nI_add, nI_mul, nI_div, nI_sub, nI_clamp, nI_leI, nI_ltI, nI_eq, z_ixN, ifTlt, ifFlt, ifTle, ifFle, ifTeq, ifFeq, if_true, if_false, (ST.a hS (o := 54) (k := 0) (a := 55) (by decide)), ln55, hN 697 (by omega)]; try simp (disch := omega) only [ifTlt, ifFlt, ifTle, ifFle, ifTeq, ifFeq, if_true, if_false, z_call_eq, z_rd_eq, zl_eq])
  · refine ⟨nI (N 696), M, M, ?_, ?_, hI⟩
    · rw [f_X11_count]
      (simp (disch := omega) only [z_rd_eq, z_call_eq, zl_eq, lit, nI_add, nI_mul, nI_div, nI_sub, nI_clamp, nI_leI, nI_ltI, nI_eq, z_ixN, ifTlt, ifFlt, ifTle, ifFle, ifTeq, ifFeq, if_true, if_false, (ST.a hS (o := 0) (k := 1) (a := 3) (by decide)), c8]; try simp (disch := omega) only [ifTlt, ifFlt, ifTle, ifFle, ifTeq, ifFeq, if_true, if_false, z_call_eq, z_rd_eq, zl_eq])
    · rw [f_X12_count]
      (simp (disch := omega) only [z_rd_eq, z_call_eq, zl_eq, lit, nI_add, nI_mul, nI_div, nI_sub, nI_clamp, nI_leI, nI_ltI, nI_eq, z_ixN, ifTlt, ifFlt, ifTle, ifFle, ifTeq, ifFeq, if_true, if_false, (ST.a hS (o := 54) (k := 0) (a := 55) (by decide)), ln55, hN 696 (by omega)]; try simp (disch := omega) only [ifTlt, ifFlt, ifTle, ifFle, ifTeq, ifFeq, if_true, if_false, z_call_eq, z_rd_eq, zl_eq])
  · refine ⟨nI (g_bits N 0 24), M, M, ?_, ?_, hI⟩
    · rw [f_X11_count]
      (simp (disch := omega) only [z_rd_eq, z_call_eq, zl_eq, lit, nI_add, nI_mul, nI_div, nI_sub, nI_clamp, nI_leI, nI_ltI, nI_eq, z_ixN, ifTlt, ifFlt, ifTle, ifFle, ifTeq, ifFeq, if_true, if_false, (ST.a hS (o := 0) (k := 1) (a := 3) (by decide)), c6]; try simp (disch := omega) only [ifTlt, ifFlt, ifTle, ifFle, ifTeq, ifFeq, if_true, if_false, z_call_eq, z_rd_eq, zl_eq])
    · rw [f_X12_count]
      (simp (disch := omega) only [z_rd_eq, z_call_eq, zl_eq, lit, nI_add, nI_mul, nI_div, nI_sub, nI_clamp, nI_leI, nI_ltI, nI_eq, z_ixN, ifTlt, ifFlt, ifTle, ifFle, ifTeq, ifFeq, if_true, if_false, m_setOf (b := 0) hS hN (by omega) (fun r hr => by rw [Nat.zero_add]; exact hR.1 r hr)]; try simp (disch := omega) only [ifTlt, ifFlt, ifTle, ifFle, ifTeq, ifFeq, if_true, if_false, z_call_eq, z_rd_eq, zl_eq])
  · refine ⟨nI (g_bits N 48 24), M, M, ?_, ?_, hI⟩
    · rw [f_X11_count]
      (simp (disch := omega) only [z_rd_eq, z_call_eq, zl_eq, lit, nI_add, nI_mul, nI_div, nI_sub, nI_clamp, nI_leI, nI_ltI, nI_eq, z_ixN, ifTlt, ifFlt, ifTle, ifFle, ifTeq, ifFeq, if_true, if_false, (ST.a hS (o := 0) (k := 1) (a := 3) (by decide)), c7]; try simp (disch := omega) only [ifTlt, ifFlt, ifTle, ifFle, ifTeq, ifFeq, if_true, if_false, z_call_eq, z_rd_eq, zl_eq])
    · rw [f_X12_count]
      (simp (disch := omega) only [z_rd_eq, z_call_eq, zl_eq, lit, nI_add, nI_mul, nI_div, nI_sub, nI_clamp, nI_leI, nI_ltI, nI_eq, z_ixN, ifTlt, ifFlt, ifTle, ifFle, ifTeq, ifFeq, if_true, if_false, m_setOf (b := 48) hS hN (by omega) hR.2.2.1]; try simp (disch := omega) only [ifTlt, ifFlt, ifTle, ifFle, ifTeq, ifFeq, if_true, if_false, z_call_eq, z_rd_eq, zl_eq])
  · refine ⟨nI nr, M, M, ?_, ?_, hI⟩
    · rw [f_X11_count]
      (simp (disch := omega) only [z_rd_eq, z_call_eq, zl_eq, lit, nI_add, nI_mul, nI_div, nI_sub, nI_clamp, nI_leI, nI_ltI, nI_eq, z_ixN, ifTlt, ifFlt, ifTle, ifFle, ifTeq, ifFeq, if_true, if_false, l1, s2]; try simp (disch := omega) only [ifTlt, ifFlt, ifTle, ifFle, ifTeq, ifFeq, if_true, if_false, z_call_eq, z_rd_eq, zl_eq])
    · rw [f_X12_count]
      (simp (disch := omega) only [z_rd_eq, z_call_eq, zl_eq, lit, nI_add, nI_mul, nI_div, nI_sub, nI_clamp, nI_leI, nI_ltI, nI_eq, z_ixN, ifTlt, ifFlt, ifTle, ifFle, ifTeq, ifFeq, if_true, if_false, s3]; try simp (disch := omega) only [ifTlt, ifFlt, ifTle, ifFle, ifTeq, ifFeq, if_true, if_false, z_call_eq, z_rd_eq, zl_eq])
  · refine ⟨nI n, M, M, ?_, ?_, hI⟩
    · rw [f_X11_count]
      (simp (disch := omega) only [z_rd_eq, z_call_eq, zl_eq, lit, nI_add, nI_mul, nI_div, nI_sub, nI_clamp, nI_leI, nI_ltI, nI_eq, z_ixN, ifTlt, ifFlt, ifTle, ifFle, ifTeq, ifFeq, if_true, if_false, (ST.a hS (o := 0) (k := 0) (a := 1) (by decide)), t1]; try simp (disch := omega) only [ifTlt, ifFlt, ifTle, ifFle, ifTeq, ifFeq, if_true, if_false, z_call_eq, z_rd_eq, zl_eq])
    · rw [f_X12_count]
      (simp (disch := omega) only [z_rd_eq, z_call_eq, zl_eq, lit, nI_add, nI_mul, nI_div, nI_sub, nI_clamp, nI_leI, nI_ltI, nI_eq, z_ixN, ifTlt, ifFlt, ifTle, ifFle, ifTeq, ifFeq, if_true, if_false, t2]; try simp (disch := omega) only [ifTlt, ifFlt, ifTle, ifFle, ifTeq, ifFeq, if_true, if_false, z_call_eq, z_rd_eq, zl_eq])
  · refine ⟨nI (N 698), M, M, ?_, ?_, hI⟩
    · rw [f_X11_count]
      (simp (disch := omega) only [z_rd_eq, z_call_eq, zl_eq, lit, nI_add, nI_mul, nI_div, nI_sub, nI_clamp, nI_leI, nI_ltI, nI_eq, z_ixN, ifTlt, ifFlt, ifTle, ifFle, ifTeq, ifFeq, if_true, if_false, (ST.a hS (o := 0) (k := 1) (a := 3) (by decide)), c10]; try simp (disch := omega) only [ifTlt, ifFlt, ifTle, ifFle, ifTeq, ifFeq, if_true, if_false, z_call_eq, z_rd_eq, zl_eq])
    · rw [f_X12_count]
      (simp (disch := omega) only [z_rd_eq, z_call_eq, zl_eq, lit, nI_add, nI_mul, nI_div, nI_sub, nI_clamp, nI_leI, nI_ltI, nI_eq, z_ixN, ifTlt, ifFlt, ifTle, ifFle, ifTeq, ifFeq, if_true, if_false, (ST.a hS (o := 54) (k := 0) (a := 55) (by decide)), ln55, hN 698 (by omega)]; try simp (disch := omega) only [ifTlt, ifFlt, ifTle, ifFle, ifTeq, ifFeq, if_true, if_false, z_call_eq, z_rd_eq, zl_eq])
  · refine ⟨nI (g_sum N 24 24), M, M, ?_, ?_, hI⟩
    · rw [f_X11_count]
      (simp (disch := omega) only [z_rd_eq, z_call_eq, zl_eq, lit, nI_add, nI_mul, nI_div, nI_sub, nI_clamp, nI_leI, nI_ltI, nI_eq, z_ixN, ifTlt, ifFlt, ifTle, ifFle, ifTeq, ifFeq, if_true, if_false, (ST.a hS (o := 0) (k := 1) (a := 3) (by decide)), (ST.a hS (o := 3) (k := 0) (a := 4) (by decide)), c_sumOf (M := M) (a := 4) (b := 24) ln4 c1]; try simp (disch := omega) only [ifTlt, ifFlt, ifTle, ifFle, ifTeq, ifFeq, if_true, if_false, z_call_eq, z_rd_eq, zl_eq])
    · rw [f_X12_count]
      (simp (disch := omega) only [z_rd_eq, z_call_eq, zl_eq, lit, nI_add, nI_mul, nI_div, nI_sub, nI_clamp, nI_leI, nI_ltI, nI_eq, z_ixN, ifTlt, ifFlt, ifTle, ifFle, ifTeq, ifFeq, if_true, if_false, m_sumOf (b := 24) hS hN (by omega)]; try simp (disch := omega) only [ifTlt, ifFlt, ifTle, ifFle, ifTeq, ifFeq, if_true, if_false, z_call_eq, z_rd_eq, zl_eq])
  · refine ⟨nI (g_sum N 96 24), M, M, ?_, ?_, hI⟩
    · rw [f_X11_count]
      (simp (disch := omega) only [z_rd_eq, z_call_eq, zl_eq, lit, nI_add, nI_mul, nI_div, nI_sub, nI_clamp, nI_leI, nI_ltI, nI_eq, z_ixN, ifTlt, ifFlt, ifTle, ifFle, ifTeq, ifFeq, if_true, if_false, (ST.a hS (o := 0) (k := 1) (a := 3) (by decide)), (ST.a hS (o := 3) (k := 2) (a := 6) (by decide)), c_sumOf (M := M) (a := 6) (b := 96) ln6 c3]; try simp (disch := omega) only [ifTlt, ifFlt, ifTle, ifFle, ifTeq, ifFeq, if_true, if_false, z_call_eq, z_rd_eq, zl_eq])
    · rw [f_X12_count]
      (simp (disch := omega) only [z_rd_eq, z_call_eq, zl_eq, lit, nI_add, nI_mul, nI_div, nI_sub, nI_clamp, nI_leI, nI_ltI, nI_eq, z_ixN, ifTlt, ifFlt, ifTle, ifFle, ifTeq, ifFeq, if_true, if_false, m_sumOf (b := 96) hS hN (by omega)]; try simp (disch := omega) only [ifTlt, ifFlt, ifTle, ifFle, ifTeq, ifFeq, if_true, if_false, z_call_eq, z_rd_eq, zl_eq])
  · refine ⟨-1, M, M, ?_, ?_, hI⟩
    · rw [f_X11_count, if_neg h0, if_neg h1, if_neg h2, if_neg h3, if_neg h4, if_neg h5, if_neg h6, if_neg h7, if_neg h8]
    · rw [f_X12_count, if_neg h0, if_neg h1, if_neg h2, if_neg h3, if_neg h4, if_neg h5, if_neg h6, if_neg h7, if_neg h8]
/-- what each room feels in all -/
def gS (N : Nat → Nat) : Nat → Nat := fun r => g_sum N (120 + 24 * r) 24
theorem gS_le {N : Nat → Nat} (hR : NR N) {r : Nat} (hr : r < 24) : gS N r ≤ 2400000 := by
  have ks : g_sum N (120 + 24 * r) 24 ≤ 24 * 99999 := g_sum_le (fun k hk => by have := hR.2.2.2.2.2.1 (24 * r + k) (by omega); rw [← Nat.add_assoc] at this; exact this)
  show g_sum N (120 + 24 * r) 24 ≤ _
  omega
theorem c_most_lp {M : zM} {N : Nat → Nat} (hS : ST M) (hC : CS M 3 N) (hR : NR N) : ∀ k n i, 0 < i → i + k = 24 → k < n → f_X11_roomThatFeelsMost_4 0 n (nI (amx (gS N) i)) (nI i) M = some (bmx (gS N) 24, M) := by
  have q5 : ∀ r, r < 24 → M.1 8 r = nI (gS N r) := hC.2.2.2.2.1
  intro k
  induction k with
  | zero =>
    intro n i h0 hi hn
    obtain ⟨n, rfl⟩ : ∃ m, n = m + 1 := ⟨n - 1, by omega⟩
    obtain rfl : i = 24 := by omega
    have ha := amx_lt (F := gS N) 24 h0
    have v2 := gS_le hR ha
    rw [f_X11_roomThatFeelsMost_4]
    (simp (disch := omega) only [z_rd_eq, z_call_eq, zl_eq, lit, nI_add, nI_mul, nI_div, nI_sub, nI_clamp, nI_leI, nI_ltI, nI_eq, z_ixN, ifTlt, ifFlt, ifTle, ifFle, ifTeq, ifFeq, if_true, if_false, (ST.a hS (o := 0) (k := 1) (a := 3) (by decide)), (ST.a hS (o := 3) (k := 4) (a := 8) (by decide)), ln8, q5 _ ha]; try simp (disch := omega) only [ifTlt, ifFlt, ifTle, ifFle, ifTeq, ifFeq, if_true, if_false, z_call_eq, z_rd_eq, zl_eq])
    unfold bmx
    by_cases h : gS N (amx (gS N) 24) = 0
    · rw [if_pos h, if_pos (Or.inr h)]; rfl
    · rw [if_neg h, if_neg (by omega)]
  | succ k ih =>
    intro n i h0 hi hn
    obtain ⟨n, rfl⟩ : ∃ m, n = m + 1 := ⟨n - 1, by omega⟩
    have ha := amx_lt (F := gS N) i h0
    have v1 := gS_le hR (show i < 24 by omega)
    have v2 := gS_le hR (show amx (gS N) i < 24 by omega)
    have key := ih n (i + 1) (by omega) (by omega) (by omega)
    rw [f_X11_roomThatFeelsMost_4]
    (simp (disch := omega) only [z_rd_eq, z_call_eq, zl_eq, lit, nI_add, nI_mul, nI_div, nI_sub, nI_clamp, nI_leI, nI_ltI, nI_eq, z_ixN, ifTlt, ifFlt, ifTle, ifFle, ifTeq, ifFeq, if_true, if_false, (ST.a hS (o := 0) (k := 1) (a := 3) (by decide)), (ST.a hS (o := 3) (k := 4) (a := 8) (by decide)), ln8, q5 i (by omega), q5 (amx (gS N) i) (by omega), f_X11_roomThatFeelsMost_33]; try simp (disch := omega) only [ifTlt, ifFlt, ifTle, ifFle, ifTeq, ifFeq, if_true, if_false, z_call_eq, z_rd_eq, zl_eq])
    by_cases h : gS N i ≤ gS N (amx (gS N) i)
    · rw [if_pos h]
      have e : amx (gS N) (i + 1) = amx (gS N) i := by simp only [amx]; rw [if_neg (Nat.not_lt.mpr h)]
      rw [e] at key
      exact key
    · rw [if_neg h]
      have e : amx (gS N) (i + 1) = i := by simp only [amx]; rw [if_pos (Nat.lt_of_not_le h)]
      rw [e] at key
      exact key
/-- the greatest of the first n -/
def mxv (F : Nat → Nat) (i : Nat) : Nat := if i = 0 then 0 else F (amx F i)
theorem m_most_lp {M : zM} {N : Nat → Nat} (hS : ST M) (hN : MN M 55 N) (hR : NR N) : ∀ k n i, i + k = 24 → k < n → f_X12_breakfast_26 54 100 n (bmx (gS N) i) (nI (mxv (gS N) i)) 0 (nI i) M = some (bmx (gS N) 24, M) := by
  intro k
  induction k with
  | zero =>
    intro n i hi hn
    obtain ⟨n, rfl⟩ : ∃ m, n = m + 1 := ⟨n - 1, by omega⟩
    obtain rfl : i = 24 := by omega
    rw [f_X12_breakfast_26]
    (simp (disch := omega) only [z_rd_eq, z_call_eq, zl_eq, lit, nI_add, nI_mul, nI_div, nI_sub, nI_clamp, nI_leI, nI_ltI, nI_eq, z_ixN, ifTlt, ifFlt, ifTle, ifFle, ifTeq, ifFeq, if_true, if_false]; try simp (disch := omega) only [ifTlt, ifFlt, ifTle, ifFle, ifTeq, ifFeq, if_true, if_false, z_call_eq, z_rd_eq, zl_eq])
  | succ k ih =>
    intro n i hi hn
    obtain ⟨n, rfl⟩ : ∃ m, n = m + 1 := ⟨n - 1, by omega⟩
    have v1 := gS_le hR (show i < 24 by omega)
    have v2 : mxv (gS N) i ≤ 2400000 := by
      unfold mxv
      split
      · omega
      next h => exact gS_le hR (Nat.lt_trans (amx_lt (F := gS N) i (by omega)) (by omega))
    have key := ih n (i + 1) (by omega) (by omega)
    have hf : f_X12_feltIn 54 (nI i) M = some (nI (gS N i), M) := m_feltIn hS hN (by omega)
    rw [f_X12_breakfast_26, if_neg (show ¬ (24 : Int32) ≤ nI i from nI_ge (b := 24) (by omega) (by omega)), if_pos rfl, hf, z_call_eq]
    simp only [f_X12_breakfast_59, f_X12_breakfast_88, if_pos, zl_eq, hf, z_call_eq, nI_1]
    by_cases h : gS N i ≤ mxv (gS N) i
    · rw [if_pos ((nI_leI (by omega) (by omega)).mpr h)]
      have e : bmx (gS N) (i + 1) = bmx (gS N) i ∧ mxv (gS N) (i + 1) = mxv (gS N) i := by
        unfold bmx mxv
        unfold mxv at h
        rcases Nat.eq_zero_or_pos i with hz | hz
        · subst hz
          rw [if_pos rfl] at h
          have : gS N 0 = 0 := by omega
          simp [amx, this]
        · rw [if_neg (by omega)] at h
          have e : amx (gS N) (i + 1) = amx (gS N) i := by simp only [amx]; rw [if_neg (Nat.not_lt.mpr h)]
          rw [e]
          simp [Nat.ne_of_gt hz]
      rw [e.1, e.2] at key
      exact key
    · rw [if_neg (fun e => h ((nI_leI (by omega) (by omega)).mp e))]
      have e : bmx (gS N) (i + 1) = nI i ∧ mxv (gS N) (i + 1) = gS N i := by
        unfold bmx mxv
        unfold mxv at h
        have e : amx (gS N) (i + 1) = i := by
          rcases Nat.eq_zero_or_pos i with hz | hz
          · subst hz; simp [amx]
          · rw [if_neg (by omega)] at h
            simp only [amx]; rw [if_pos (Nat.lt_of_not_le h)]
        rw [e]
        constructor
        · rw [if_neg]; omega
        · rw [if_neg (by omega)]
      rw [e.1, e.2] at key
      exact key
/-- bits of the rooms of which something holds -/
def pbits (p : Nat → Bool) : Nat → Nat
  | 0 => 0
  | n + 1 => pbits p n + (if p n then 1 else 0) * 2 ^ n
theorem pbits_lt {p : Nat → Bool} : ∀ n, pbits p n < 2 ^ n := by
  intro n
  induction n with
  | zero => simp [pbits]
  | succ n ih => simp only [pbits]; rw [Nat.pow_succ]; split <;> omega
theorem pbits_step {p : Nat → Bool} {i : Nat} (hi : i < 30) : (if p i then (nI (pbits p i) ||| ((1 : Int32) <<< (nI i &&& 31))) else nI (pbits p i)) = nI (pbits p (i + 1)) := by
  have h := pbits_lt (p := p) i
  simp only [pbits]
  by_cases hp : p i = true
  · rw [if_pos hp, if_pos hp, nI_bit i (by omega), nI_or]
    have := or_add (a := pbits p i) (n := i) (x := 1) h (by omega)
    rw [Nat.one_mul] at this
    rw [this, Nat.one_mul]
  · rw [if_neg hp, if_neg hp, Nat.zero_mul, Nat.add_zero]
def fp (N : Nat → Nat) (q : Nat) : Nat → Bool := fun r => decide (0 < N (120 + 24 * r + q))
theorem fp_t {N : Nat → Nat} {q r : Nat} (h : ¬ N (120 + 24 * r + q) = 0) : fp N q r = true := decide_eq_true (by omega)
theorem fp_f {N : Nat → Nat} {q r : Nat} (h : N (120 + 24 * r + q) = 0) : ¬ fp N q r = true := by
  unfold fp
  rw [h]
  decide
theorem c_rooms_lp {M : zM} {N : Nat → Nat} (hS : ST M) (hC : CS M 3 N) (hR : NR N) {q : Nat} (hq : q < 24) : ∀ k n i, i + k = 24 → k < n → f_X11_roomsThatFeel_4 0 (nI q) n (nI (pbits (fp N q) i)) (nI i) M = some (nI (pbits (fp N q) 24), M) := by
  intro k
  induction k with
  | zero =>
    intro n i hi hn
    obtain ⟨n, rfl⟩ : ∃ m, n = m + 1 := ⟨n - 1, by omega⟩
    obtain rfl : i = 24 := by omega
    rw [f_X11_roomsThatFeel_4, if_pos (by decide)]
  | succ k ih =>
    intro n i hi hn
    obtain ⟨n, rfl⟩ : ∃ m, n = m + 1 := ⟨n - 1, by omega⟩
    have v1 := hR.2.2.2.2.2.1 (24 * i + q) (by omega)
    rw [← Nat.add_assoc] at v1
    have key := ih n (i + 1) (by omega) (by omega)
    rw [← pbits_step (by omega)] at key
    rw [f_X11_roomsThatFeel_4, if_neg (show ¬ (24 : Int32) ≤ nI i from nI_ge (b := 24) (by omega) (by omega)), (ST.a hS (o := 0) (k := 1) (a := 3) (by decide)), z_rd_eq, c_feelsOf hO3 hS hC (show i < 24 by omega) hq, z_call_eq]
    simp only [f_X11_roomsThatFeel_28, zl_eq, nI_1]
    by_cases h : N (120 + 24 * i + q) = 0
    · rw [if_pos (show nI (N (120 + 24 * i + q)) ≤ 0 by rw [h]; decide)]
      rw [if_neg (fp_f h)] at key
      exact key
    · rw [if_neg (nI_nle (by omega) (by omega))]
      rw [if_pos (fp_t h)] at key
      exact key
theorem m_rooms_lp {M : zM} {N : Nat → Nat} (hS : ST M) (hN : MN M 55 N) (hR : NR N) {q : Nat} (hq : q < 24) : ∀ k n i, i + k = 24 → k < n → f_X12_breakfast_26 54 (nI q) n (-2) 0 (nI (pbits (fp N q) i)) (nI i) M = some (nI (pbits (fp N q) 24), M) := by
  have h100 : ¬ nI q = 100 := by rw [show (100 : Int32) = nI 100 from rfl, nI_eq (by omega) (by omega)]; omega
  intro k
  induction k with
  | zero =>
    intro n i hi hn
    obtain ⟨n, rfl⟩ : ∃ m, n = m + 1 := ⟨n - 1, by omega⟩
    obtain rfl : i = 24 := by omega
    rw [f_X12_breakfast_26, if_pos (by decide), if_neg h100]
  | succ k ih =>
    intro n i hi hn
    obtain ⟨n, rfl⟩ : ∃ m, n = m + 1 := ⟨n - 1, by omega⟩
    have v1 := hR.2.2.2.2.2.1 (24 * i + q) (by omega)
    rw [← Nat.add_assoc] at v1
    have key := ih n (i + 1) (by omega) (by omega)
    rw [← pbits_step (by omega)] at key
    rw [f_X12_breakfast_26, if_neg (show ¬ (24 : Int32) ≤ nI i from nI_ge (b := 24) (by omega) (by omega)), if_neg h100, f_X12_breakfast_59, if_neg h100, (ST.a hS (o := 54) (k := 0) (a := 55) (by decide)), z_rd_eq, f_X12_felt, z_call_eq, show (120 + 24 * nI i + nI q : Int32) = nI (120 + 24 * i + q) by simp only [lit, nI_mul, nI_add], if_pos (by rw [z_ixN (by omega), ln55]; omega), nI_clamp (by omega), hN (120 + 24 * i + q) (by omega)]
    simp only [f_X12_breakfast_88, zl_eq, nI_1]
    by_cases h : N (120 + 24 * i + q) = 0
    · rw [if_pos (show nI (N (120 + 24 * i + q)) ≤ 0 by rw [h]; decide)]
      rw [if_neg (fp_f h)] at key
      exact key
    · rw [if_neg (nI_nle (by omega) (by omega))]
      rw [if_pos (fp_t h)] at key
      exact key
theorem p_breakfast : ok_breakfast Inv := by
  intro M hI b
  obtain ⟨N, K, hS, hR, hN, hC, hK, hT, hL⟩ := id hI
  by_cases h100 : b = 100
  · subst h100
    refine ⟨bmx (gS N) 24, M, M, ?_, ?_, hI⟩
    · have h := c_most_lp hS hC hR 23 zF 1 (by omega) (by omega) (by decide)
      rw [amx_1] at h
      rw [f_X11_breakfast, if_pos rfl, f_X11_roomThatFeelsMost, show (0 : Int32) = nI 0 from rfl, show (1 : Int32) = nI 1 from rfl, h, z_call_eq]
    · rw [f_X12_breakfast, if_pos rfl, f_X12_breakfast_15]
      exact m_most_lp hS hN hR 24 zF 0 (by omega) (by decide)
  · rcases room_cases b with ⟨q, hq, rfl⟩ | hb
    · refine ⟨nI (pbits (fp N q) 24), M, M, ?_, ?_, hI⟩
      · have h := c_rooms_lp hS hC hR hq 24 zF 0 (by omega) (by decide)
        rw [f_X11_breakfast, if_neg h100, e_room hq, z_call_eq, if_neg (by decide), f_X11_roomsThatFeel, show (0 : Int32) = nI 0 from rfl]
        have h : f_X11_roomsThatFeel_4 0 (nI q) zF (nI 0) (nI 0) M = _ := h
        rw [h, z_call_eq]
      · have h := m_rooms_lp hS hN hR hq 24 zF 0 (by omega) (by decide)
        rw [f_X12_breakfast, if_neg h100, e_room2 hq, z_call_eq, if_neg (by decide), f_X12_breakfast_15]
        exact h
    · refine ⟨-1, M, M, ?_, ?_, hI⟩
      · rw [f_X11_breakfast, if_neg h100, (hb M).1, z_call_eq, if_pos rfl]
      · rw [f_X12_breakfast, if_neg h100, (hb M).2, z_call_eq, if_pos rfl]
