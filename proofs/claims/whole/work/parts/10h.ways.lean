theorem c_rise_lp {M : zM} {o : Nat} {N : Nat → Nat} (hO : SO o) (hS : ST M) (hC : CS M o N) (hR : NR N) {j f : Nat} (hj : j < 24) (hf : f ≤ 5) : ∀ m n k, j / 4 + k + m = f → m < n → f_X8_riseTo_8 o (nI f) n (nI (upn N j k)) (nI (j / 4 + k)) M = some (nI (upn N j (k + m)), M) := by
  intro m
  induction m with
  | zero =>
    intro n k hk hn
    obtain ⟨n, rfl⟩ : ∃ m, n = m + 1 := ⟨n - 1, by omega⟩
    rw [f_X8_riseTo_8]
    (simp (disch := omega) only [z_rd_eq, z_call_eq, zl_eq, lit, nI_add, nI_mul, nI_div, nI_sub, nI_clamp, nI_leI, nI_ltI, nI_eq, z_ixN, ifTlt, ifFlt, ifTle, ifFle, ifTeq, ifFeq, if_true, if_false]; try simp (disch := omega) only [ifTlt, ifFlt, ifTle, ifFle, ifTeq, ifFeq, if_true, if_false, z_call_eq, z_rd_eq, zl_eq])
    rfl
  | succ m ih =>
    intro n k hk hn
    obtain ⟨n, rfl⟩ : ∃ m, n = m + 1 := ⟨n - 1, by omega⟩
    have h1 := (upn_lt (N := N) hj k (by omega)).1
    have key := ih n (k + 1) (by omega) (by omega)
    rw [f_X8_riseTo_8]
    (simp (disch := omega) only [z_rd_eq, z_call_eq, zl_eq, lit, nI_add, nI_mul, nI_div, nI_sub, nI_clamp, nI_leI, nI_ltI, nI_eq, z_ixN, ifTlt, ifFlt, ifTle, ifFle, ifTeq, ifFeq, if_true, if_false, c_above hO hS hC hR h1]; try simp (disch := omega) only [ifTlt, ifFlt, ifTle, ifFle, ifTeq, ifFeq, if_true, if_false, z_call_eq, z_rd_eq, zl_eq])
    rw [show k + (m + 1) = k + 1 + m by omega]
    exact key
theorem c_riseTo {M : zM} {o : Nat} {N : Nat → Nat} (hO : SO o) (hS : ST M) (hC : CS M o N) (hR : NR N) {j f : Nat} (hj : j < 24) (hf : f ≤ 5) : f_X8_riseTo o (nI j) (nI f) M = some (nI (upn N j (f - j / 4)), M) := by
  rw [f_X8_riseTo, f_X11_floorOf, z_call_eq, show (4 : Int32) = nI 4 from rfl, nI_div (by omega) (by omega) (by omega)]
  by_cases h : j / 4 ≤ f
  · have h := c_rise_lp hO hS hC hR hj hf (f - j / 4) zF 0 (by omega) (by rw [zF_eq]; omega)
    rw [Nat.zero_add] at h
    exact h
  · rw [show f - j / 4 = 0 by omega, show zF = 999 + 1 from rfl, f_X8_riseTo_8, if_pos ((nI_leI (by omega) (by omega)).mpr (by omega))]
    rfl
theorem c_rise24 {M : zM} {o : Nat} {f : Nat} (hf : f ≤ 5) : f_X8_riseTo o (nI 24) (nI f) M = some (nI 24, M) := by
  rw [f_X8_riseTo, f_X11_floorOf, z_call_eq, show (4 : Int32) = nI 4 from rfl, nI_div (by omega) (by omega) (by omega), show zF = 999 + 1 from rfl, f_X8_riseTo_8, if_pos ((nI_leI (by omega) (by omega)).mpr (by omega))]
/-- by which rooms of the top floor something goes out -/
def cwl (N : Nat → Nat) : Nat → Nat
  | 0 => 0
  | i + 1 => cwl N i ||| 2 ^ upn N i 5
theorem cwl_lt {N : Nat → Nat} : ∀ i, i ≤ 4 → cwl N i < 2 ^ 24 := by
  intro i
  induction i with
  | zero => intro _; exact (show 0 < 2 ^ 24 by decide)
  | succ i ih =>
    intro h
    exact Nat.or_lt_two_pow (ih (by omega)) (Nat.pow_lt_pow_right (by omega) (upn_lt (N := N) (j := i) (by omega) 5 (by omega)).1)
theorem c_cowls_lp {M : zM} {N : Nat → Nat} (hS : ST M) (hC : CS M 3 N) (hR : NR N) : ∀ m n i, i + m = 4 → m < n → f_X11_cowls_4 0 n (nI (cwl N i)) (nI i) M = some (nI (pc (cwl N 4) 24), M) := by
  intro m
  induction m with
  | zero =>
    intro n i hi hn
    obtain ⟨n, rfl⟩ : ∃ m, n = m + 1 := ⟨n - 1, by omega⟩
    obtain rfl : i = 4 := by omega
    rw [f_X11_cowls_4, if_pos (by decide), c_bitCount (cwl_lt 4 (by omega)), z_call_eq]
  | succ m ih =>
    intro n i hi hn
    obtain ⟨n, rfl⟩ : ∃ m, n = m + 1 := ⟨n - 1, by omega⟩
    have h1 := (upn_lt (N := N) (j := i) (by omega) 5 (by omega)).1
    rw [f_X11_cowls_4, if_neg (show ¬ (4 : Int32) ≤ nI i from nI_ge (b := 4) (by omega) (by omega)), (ST.a hS (o := 0) (k := 1) (a := 3) (by decide)), z_rd_eq, show (5 : Int32) = nI 5 from rfl, c_riseTo hO3 hS hC hR (by omega) (by omega), z_call_eq, show 5 - i / 4 = 5 by omega, nI_bit _ (by omega), nI_or, zl_eq, zl_eq, nI_1]
    exact ih n (i + 1) (by omega) (by omega)
theorem m_cowls_lp {M : zM} {N : Nat → Nat} (hS : ST M) (hN : MN M 55 N) (hR : NR N) : ∀ m n i, i + m = 4 → m < n → f_X12_cowls_4 54 n (nI (cwl N i)) (nI i) M = some (nI (pc (cwl N 4) 24), M) := by
  intro m
  induction m with
  | zero =>
    intro n i hi hn
    obtain ⟨n, rfl⟩ : ∃ m, n = m + 1 := ⟨n - 1, by omega⟩
    obtain rfl : i = 4 := by omega
    have := cwl_lt (N := N) 4 (by omega)
    rw [f_X12_cowls_4, if_pos (by decide), m_bits (by omega), z_call_eq]
  | succ m ih =>
    intro n i hi hn
    obtain ⟨n, rfl⟩ : ∃ m, n = m + 1 := ⟨n - 1, by omega⟩
    have h1 := (upn_lt (N := N) (j := i) (by omega) 5 (by omega)).1
    have hw : f_X12_way 54 (nI i) 4 M = some (nI (upn N i 5), M) := m_way (i := 4) hS hN hR (by omega) (by omega)
    rw [f_X12_cowls_4, if_neg (show ¬ (4 : Int32) ≤ nI i from nI_ge (b := 4) (by omega) (by omega)), hw, z_call_eq, nI_bit _ (by omega), nI_or, zl_eq, zl_eq, nI_1]
    exact ih n (i + 1) (by omega) (by omega)
theorem p_cowls : ok_cowls Inv := by
  intro M hI _
  obtain ⟨N, K, hS, hR, hN, hC, hK, hT, hL⟩ := id hI
  refine ⟨nI (pc (cwl N 4) 24), M, M, ?_, ?_, hI⟩
  · rw [f_X11_cowls]
    exact c_cowls_lp hS hC hR 4 zF 0 (by omega) (by decide)
  · rw [f_X12_cowls]
    exact m_cowls_lp hS hN hR 4 zF 0 (by omega) (by decide)
/-- the way of q passes r -/
def pw (N : Nat → Nat) (r : Nat) : Nat → Bool := fun q => decide (q / 4 < r / 4) && decide (upn N q (r / 4 - q / 4) = r)
theorem m_passes_lp {M : zM} {N : Nat → Nat} (hS : ST M) (hN : MN M 55 N) (hR : NR N) {q r : Nat} (hq : q < 24) (hr : r < 24) : ∀ m n k, q / 4 + k + m = 6 → m < n → f_X12_passes_6 54 (nI r) n (nI (upn N q k)) M = some (if q / 4 + k ≤ r / 4 ∧ upn N q (r / 4 - q / 4) = r then 1 else 0, M) := by
  intro m
  induction m with
  | zero =>
    intro n k hk hn
    obtain ⟨n, rfl⟩ : ∃ m, n = m + 1 := ⟨n - 1, by omega⟩
    have e24 : upn N q k = 24 := by
      rcases k with _ | k
      · omega
      · have := upn_lt (N := N) hq k (by omega)
        exact abv_hi (by omega)
    rw [f_X12_passes_6, e24, if_pos (by decide), f_X12_passes_26, if_neg (by rw [nI_eq (by omega) (by omega)]; omega), if_neg (by omega)]
  | succ m ih =>
    intro n k hk hn
    obtain ⟨n, rfl⟩ : ∃ m, n = m + 1 := ⟨n - 1, by omega⟩
    have h1 := upn_lt (N := N) hq k (by omega)
    have key := ih n (k + 1) (by omega) (by omega)
    rw [f_X12_passes_6, if_neg (by rw [show (24 : Int32) = nI 24 from rfl, nI_eq (by omega) (by omega)]; omega)]
    by_cases h : upn N q k = r
    · rw [if_pos (by rw [h]), f_X12_passes_26, if_pos (by rw [h]), if_pos]
      rw [h] at h1
      refine ⟨by omega, ?_⟩
      rw [show r / 4 - q / 4 = k by omega]
      exact h
    · rw [if_neg (by rw [nI_eq (by omega) (by omega)]; exact h), m_above hS hN hR h1.1, z_call_eq]
      have e : (q / 4 + (k + 1) ≤ r / 4 ∧ upn N q (r / 4 - q / 4) = r) ↔ (q / 4 + k ≤ r / 4 ∧ upn N q (r / 4 - q / 4) = r) := by
        constructor
        · intro ⟨a, b⟩; exact ⟨by omega, b⟩
        · intro ⟨a, b⟩
          refine ⟨?_, b⟩
          rcases (show q / 4 + k = r / 4 ∨ q / 4 + k < r / 4 by omega) with h2 | h2
          · rw [show r / 4 - q / 4 = k by omega] at b
            exact absurd b h
          · omega
      simp only [e] at key
      exact key
theorem m_passes {M : zM} {N : Nat → Nat} (hS : ST M) (hN : MN M 55 N) (hR : NR N) {q r : Nat} (hq : q < 24) (hr : r < 24) : f_X12_passes 54 (nI q) (nI r) M = some (if pw N r q then 1 else 0, M) := by
  have h := m_passes_lp hS hN hR hq hr (5 - q / 4) zF 1 (by omega) (by rw [zF_eq]; omega)
  rw [f_X12_passes, m_above hS hN hR hq, z_call_eq]
  have h : f_X12_passes_6 54 (nI r) zF (nI (abv N q)) M = _ := h
  rw [h]
  by_cases h2 : q / 4 + 1 ≤ r / 4 ∧ upn N q (r / 4 - q / 4) = r
  · rw [if_pos h2, if_pos]
    unfold pw
    rw [Bool.and_eq_true, decide_eq_true_eq, decide_eq_true_eq]
    exact ⟨by omega, h2.2⟩
  · rw [if_neg h2, if_neg]
    unfold pw
    rw [Bool.and_eq_true, decide_eq_true_eq, decide_eq_true_eq]
    exact fun e => h2 ⟨by omega, e.2⟩
theorem c_from_lp {M : zM} {N : Nat → Nat} (hS : ST M) (hC : CS M 3 N) (hR : NR N) {r : Nat} (hr : r < 24) : ∀ m n i, i + m = 24 → m < n → f_X11_fromWhere_13 0 (nI r) n (nI (pbits (pw N r) i)) (nI i) M = some (nI (pbits (pw N r) 24), M) := by
  intro m
  induction m with
  | zero =>
    intro n i hi hn
    obtain ⟨n, rfl⟩ : ∃ m, n = m + 1 := ⟨n - 1, by omega⟩
    obtain rfl : i = 24 := by omega
    rw [f_X11_fromWhere_13, if_pos (by decide)]
  | succ m ih =>
    intro n i hi hn
    obtain ⟨n, rfl⟩ : ∃ m, n = m + 1 := ⟨n - 1, by omega⟩
    have key := ih n (i + 1) (by omega) (by omega)
    rw [← pbits_step (by omega)] at key
    rw [f_X11_fromWhere_13, if_neg (show ¬ (24 : Int32) ≤ nI i from nI_ge (b := 24) (by omega) (by omega))]
    simp only [f_X11_fromWhere_46, zl_eq, nI_1]
    by_cases h : i = r
    · subst h
      rw [if_pos rfl]
      rw [if_neg (by unfold pw; simp)] at key
      exact key
    · rw [if_neg (by rw [nI_eq (by omega) (by omega)]; exact h), (ST.a hS (o := 0) (k := 1) (a := 3) (by decide)), z_rd_eq, f_X11_floorOf, z_call_eq, show (4 : Int32) = nI 4 from rfl, nI_div (by omega) (by omega) (by omega), c_riseTo hO3 hS hC hR (show i < 24 by omega) (show r / 4 ≤ 5 by omega), z_call_eq]
      have hu : upn N i (r / 4 - i / 4) < 2 ^ 31 := by
        by_cases hle : i / 4 ≤ r / 4
        · have := (upn_lt (N := N) (j := i) (by omega) (r / 4 - i / 4) (by omega)).1
          omega
        · rw [show r / 4 - i / 4 = 0 by omega]; show i < _; omega
      by_cases h2 : upn N i (r / 4 - i / 4) = r
      · rw [if_pos (by rw [h2])]
        have hlt : i / 4 < r / 4 := by
          rcases Nat.lt_or_ge (i / 4) (r / 4) with q | q
          · exact q
          · rw [show r / 4 - i / 4 = 0 by omega] at h2
            exact absurd h2 h
        rw [if_pos (by unfold pw; rw [Bool.and_eq_true, decide_eq_true_eq, decide_eq_true_eq]; exact ⟨hlt, h2⟩)] at key
        exact key
      · rw [if_neg (by rw [nI_eq hu (by omega)]; exact h2)]
        rw [if_neg (by unfold pw; rw [Bool.and_eq_true, decide_eq_true_eq, decide_eq_true_eq]; exact fun e => h2 e.2)] at key
        exact key
theorem m_from_lp {M : zM} {N : Nat → Nat} (hS : ST M) (hN : MN M 55 N) (hR : NR N) {r : Nat} (hr : r < 24) : ∀ m n i, i + m = 24 → m < n → f_X12_fromWhere_13 54 (nI r) n (nI (pbits (pw N r) i)) (nI i) M = some (nI (pbits (pw N r) 24), M) := by
  intro m
  induction m with
  | zero =>
    intro n i hi hn
    obtain ⟨n, rfl⟩ : ∃ m, n = m + 1 := ⟨n - 1, by omega⟩
    obtain rfl : i = 24 := by omega
    rw [f_X12_fromWhere_13, if_pos (by decide)]
  | succ m ih =>
    intro n i hi hn
    obtain ⟨n, rfl⟩ : ∃ m, n = m + 1 := ⟨n - 1, by omega⟩
    have key := ih n (i + 1) (by omega) (by omega)
    rw [← pbits_step (by omega)] at key
    rw [f_X12_fromWhere_13, if_neg (show ¬ (24 : Int32) ≤ nI i from nI_ge (b := 24) (by omega) (by omega)), m_passes hS hN hR (show i < 24 by omega) hr, z_call_eq]
    simp only [f_X12_fromWhere_34, zl_eq, nI_1]
    by_cases h : pw N r i = true
    · rw [if_pos h, if_neg (by decide)]
      rw [if_pos h] at key
      exact key
    · rw [if_neg h, if_pos rfl]
      rw [if_neg h] at key
      exact key
theorem p_fromWhere : ok_fromWhere Inv := by
  intro M hI a
  obtain ⟨N, K, hS, hR, hN, hC, hK, hT, hL⟩ := id hI
  rcases room_cases a with ⟨r, hr, rfl⟩ | ha
  · refine ⟨nI (pbits (pw N r) 24), M, M, ?_, ?_, hI⟩
    · rw [f_X11_fromWhere, e_room hr, z_call_eq, if_neg (by decide)]
      exact c_from_lp hS hC hR hr 24 zF 0 (by omega) (by decide)
    · rw [f_X12_fromWhere, e_room2 hr, z_call_eq, if_neg (by decide)]
      exact m_from_lp hS hN hR hr 24 zF 0 (by omega) (by decide)
  · refine ⟨-1, M, M, ?_, ?_, hI⟩
    · rw [f_X11_fromWhere, (ha M).1, z_call_eq, if_pos rfl]
    · rw [f_X12_fromWhere, (ha M).2, z_call_eq, if_pos rfl]
/-- where two ways meet, from the floor 6 - m on -/
def mtc (N : Nat → Nat) (r q : Nat) : Nat → Int32
  | 0 => -2
  | m + 1 => if upn N r (5 - m - r / 4) = upn N q (5 - m - q / 4) then nI (upn N r (5 - m - r / 4)) else mtc N r q m
theorem c_meet_lp {M : zM} {N : Nat → Nat} (hS : ST M) (hC : CS M 3 N) (hR : NR N) {r q : Nat} (hr : r < 24) (hq : q < 24) : ∀ m n f, f + m = 6 → r / 4 ≤ f → q / 4 ≤ f → m < n → f_X11_meet_31 0 (nI r) (nI q) n (nI f) M = some (mtc N r q m, M) := by
  intro m
  induction m with
  | zero =>
    intro n f hf h1 h2 hn
    obtain ⟨n, rfl⟩ : ∃ m, n = m + 1 := ⟨n - 1, by omega⟩
    obtain rfl : f = 6 := by omega
    rw [f_X11_meet_31, if_pos (by decide)]
    rfl
  | succ m ih =>
    intro n f hf h1 h2 hn
    obtain ⟨n, rfl⟩ : ∃ m, n = m + 1 := ⟨n - 1, by omega⟩
    obtain rfl : f = 5 - m := by omega
    have key := ih n (5 - m + 1) (by omega) (by omega) (by omega) (by omega)
    have u1 := (upn_lt (N := N) hr (5 - m - r / 4) (by omega)).1
    have u2 := (upn_lt (N := N) hq (5 - m - q / 4) (by omega)).1
    rw [f_X11_meet_31, if_neg (show ¬ (5 : Int32) < nI (5 - m) from nI_nlt (a := 5) (by omega) (by omega)), (ST.a hS (o := 0) (k := 1) (a := 3) (by decide)), z_rd_eq, c_riseTo hO3 hS hC hR hr (by omega), z_call_eq, (ST.a hS (o := 0) (k := 1) (a := 3) (by decide)), z_rd_eq, c_riseTo hO3 hS hC hR hq (by omega), z_call_eq]
    simp only [mtc]
    by_cases h : upn N r (5 - m - r / 4) = upn N q (5 - m - q / 4)
    · rw [if_pos (by rw [h]), if_pos h]
    · rw [if_neg (by rw [nI_eq (by omega) (by omega)]; exact h), if_neg h, zl_eq, nI_1]
      exact key
theorem div4 {j : Nat} (h : j < 2 ^ 31) : nI j / 4 = nI (j / 4) := nI_div (d := 4) h (by omega) (by omega)
theorem upn_fl {N : Nat → Nat} {j : Nat} (hj : j < 24) : ∀ k, j / 4 + k ≤ 6 → upn N j k / 4 = j / 4 + k ∧ upn N j k ≤ 24 := by
  intro k hk
  rcases k with _ | k
  · exact ⟨rfl, by show j ≤ 24; omega⟩
  · have h := upn_lt (N := N) hj k (by omega)
    show abv N (upn N j k) / 4 = _ ∧ abv N (upn N j k) ≤ 24
    refine ⟨?_, abv_le _⟩
    by_cases h5 : upn N j k < 20
    · have := abv_lt (N := N) h5; omega
    · rw [abv_hi (by omega)]; omega
theorem m_meetA {M : zM} {N : Nat → Nat} (hS : ST M) (hN : MN M 55 N) (hR : NR N) {r q : Nat} (hr : r < 24) (hq : q < 24) : ∀ m n f, f + m = 6 → r / 4 ≤ f → q / 4 ≤ f → 2 * m < n → f_X12_meet_21 54 n (nI (upn N r (f - r / 4))) (nI (upn N q (f - q / 4))) M = some (mtc N r q m, M) := by
  intro m
  induction m with
  | zero =>
    intro n f hf h1 h2 hn
    obtain ⟨n, rfl⟩ : ∃ m, n = m + 1 := ⟨n - 1, by omega⟩
    obtain rfl : f = 6 := by omega
    have a1 := upn_fl (N := N) hr (6 - r / 4) (by omega)
    have a2 := upn_fl (N := N) hq (6 - q / 4) (by omega)
    have e1 : upn N r (6 - r / 4) = 24 := by omega
    have e2 : upn N q (6 - q / 4) = 24 := by omega
    rw [e1, e2, f_X12_meet_21, if_pos rfl, if_pos (by decide)]
    rfl
  | succ m ih =>
    intro n f hf h1 h2 hn
    obtain ⟨n, rfl⟩ : ∃ m, n = m + 2 := ⟨n - 2, by omega⟩
    obtain rfl : f = 5 - m := by omega
    have key := ih n (5 - m + 1) (by omega) (by omega) (by omega) (by omega)
    have u1 := upn_lt (N := N) hr (5 - m - r / 4) (by omega)
    have u2 := upn_lt (N := N) hq (5 - m - q / 4) (by omega)
    have w1 := upn_fl (N := N) hr (5 - m - r / 4 + 1) (by omega)
    rw [show 5 - m + 1 - r / 4 = 5 - m - r / 4 + 1 by omega, show 5 - m + 1 - q / 4 = 5 - m - q / 4 + 1 by omega] at key
    simp only [mtc]
    rw [f_X12_meet_21]
    by_cases h : upn N r (5 - m - r / 4) = upn N q (5 - m - q / 4)
    · rw [if_pos (by rw [h]), if_neg (by rw [show (24 : Int32) = nI 24 from rfl, nI_eq (by omega) (by omega)]; omega), if_pos h]
    · rw [if_neg (by rw [nI_eq (by omega) (by omega)]; exact h), if_neg h, div4 (by omega), div4 (by omega), if_neg (by rw [nI_ltI (by omega) (by omega)]; omega), m_above hS hN hR u1.1, z_call_eq]
      show f_X12_meet_21 54 (n + 1) (nI (upn N r (5 - m - r / 4 + 1))) _ M = _
      rw [f_X12_meet_21, if_neg (by rw [nI_eq (by omega) (by omega)]; intro e; rw [e] at w1; omega), div4 (by omega), div4 (by omega), if_pos (by rw [nI_ltI (by omega) (by omega)]; omega), m_above hS hN hR u2.1, z_call_eq]
      exact key
theorem m_meetB {M : zM} {N : Nat → Nat} (hS : ST M) (hN : MN M 55 N) (hR : NR N) {r q : Nat} (hr : r < 24) (hq : q < 24) : ∀ d n i, r / 4 + i + d = q / 4 → d + 2 * (6 - q / 4) < n → f_X12_meet_21 54 n (nI (upn N r i)) (nI q) M = some (mtc N r q (6 - q / 4), M) := by
  intro d
  induction d with
  | zero =>
    intro n i hi hn
    have h := m_meetA hS hN hR hr hq (6 - q / 4) n (q / 4) (by omega) (by omega) (by omega) (by omega)
    rw [show q / 4 - r / 4 = i by omega, Nat.sub_self] at h
    exact h
  | succ d ih =>
    intro n i hi hn
    obtain ⟨n, rfl⟩ : ∃ m, n = m + 1 := ⟨n - 1, by omega⟩
    have u1 := upn_lt (N := N) hr i (by omega)
    rw [f_X12_meet_21, if_neg (by rw [nI_eq (by omega) (by omega)]; intro e; rw [e] at u1; omega), div4 (by omega), div4 (by omega), if_neg (by rw [nI_ltI (by omega) (by omega)]; omega), m_above hS hN hR u1.1, z_call_eq]
    exact ih n (i + 1) (by omega) (by omega)
theorem m_meetC {M : zM} {N : Nat → Nat} (hS : ST M) (hN : MN M 55 N) (hR : NR N) {r q : Nat} (hr : r < 24) (hq : q < 24) : ∀ d n i, q / 4 + i + d = r / 4 → d + 2 * (6 - r / 4) < n → f_X12_meet_21 54 n (nI r) (nI (upn N q i)) M = some (mtc N r q (6 - r / 4), M) := by
  intro d
  induction d with
  | zero =>
    intro n i hi hn
    have h := m_meetA hS hN hR hr hq (6 - r / 4) n (r / 4) (by omega) (by omega) (by omega) (by omega)
    rw [show r / 4 - q / 4 = i by omega, Nat.sub_self] at h
    exact h
  | succ d ih =>
    intro n i hi hn
    obtain ⟨n, rfl⟩ : ∃ m, n = m + 1 := ⟨n - 1, by omega⟩
    have u1 := upn_lt (N := N) hq i (by omega)
    rw [f_X12_meet_21, if_neg (by rw [nI_eq (by omega) (by omega)]; intro e; rw [← e] at u1; omega), div4 (by omega), div4 (by omega), if_pos (by rw [nI_ltI (by omega) (by omega)]; omega), m_above hS hN hR u1.1, z_call_eq]
    exact ih n (i + 1) (by omega) (by omega)
theorem nI_max {a b : Nat} (ha : a < 2 ^ 31) (hb : b < 2 ^ 31) : z_max (nI a) (nI b) = nI (max a b) := by
  unfold z_max
  by_cases h : a < b
  · rw [if_pos ((nI_ltI ha hb).mpr h), Nat.max_eq_right (by omega)]
  · rw [if_neg (fun e => h ((nI_ltI ha hb).mp e)), Nat.max_eq_left (by omega)]
theorem nI_min {a b : Nat} (ha : a < 2 ^ 31) (hb : b < 2 ^ 31) : z_min (nI a) (nI b) = nI (min a b) := by
  unfold z_min
  by_cases h : b < a
  · rw [if_pos ((nI_ltI hb ha).mpr h), Nat.min_eq_right (by omega)]
  · rw [if_neg (fun e => h ((nI_ltI hb ha).mp e)), Nat.min_eq_left (by omega)]
theorem p_meet : ok_meet Inv := by
  intro M hI a b
  obtain ⟨N, K, hS, hR, hN, hC, hK, hT, hL⟩ := id hI
  rcases room_cases a with ⟨r, hr, rfl⟩ | ha
  · rcases room_cases b with ⟨q, hq, rfl⟩ | hb
    · refine ⟨mtc N r q (6 - max (r / 4) (q / 4)), M, M, ?_, ?_, hI⟩
      · rw [f_X11_meet, e_room hr, z_call_eq, if_neg (by decide), e_room hq, z_call_eq, if_neg (by decide), f_X11_floorOf, z_call_eq, f_X11_floorOf, z_call_eq, div4 (by omega), div4 (by omega), nI_max (by omega) (by omega), zl_eq]
        exact c_meet_lp hS hC hR hr hq (6 - max (r / 4) (q / 4)) zF (max (r / 4) (q / 4)) (by omega) (by omega) (by omega) (by rw [zF_eq]; omega)
      · rw [f_X12_meet, e_room2 hr, z_call_eq, if_neg (by decide), e_room2 hq, z_call_eq, if_neg (by decide)]
        rcases Nat.le_total (r / 4) (q / 4) with h | h
        · rw [Nat.max_eq_right h]
          exact m_meetB hS hN hR hr hq (q / 4 - r / 4) zF 0 (by omega) (by rw [zF_eq]; omega)
        · rw [Nat.max_eq_left h]
          exact m_meetC hS hN hR hr hq (r / 4 - q / 4) zF 0 (by omega) (by rw [zF_eq]; omega)
    · refine ⟨-1, M, M, ?_, ?_, hI⟩
      · rw [f_X11_meet, e_room hr, z_call_eq, if_neg (by decide), (hb M).1, z_call_eq, if_pos rfl]
      · rw [f_X12_meet, e_room2 hr, z_call_eq, if_neg (by decide), (hb M).2, z_call_eq, if_pos rfl]
  · refine ⟨-1, M, M, ?_, ?_, hI⟩
    · rw [f_X11_meet, (ha M).1, z_call_eq, if_pos rfl]
    · rw [f_X12_meet, (ha M).2, z_call_eq, if_pos rfl]
