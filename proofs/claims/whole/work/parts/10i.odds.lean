/-! the greatest common divisor, and odds -/
theorem rem_nI {a b : Nat} (ha : a < 2 ^ 31) (h0 : 0 < b) (hb : b < 2 ^ 31) : nI a - nI a / nI b * nI b = nI (a % b) := pk_rem ha h0 hb
theorem n0 : nI 0 = 0 := rfl
theorem mod_half {a b : Nat} (h0 : 0 < b) (hb : 0 < a % b) : b % (a % b) < (b + 1) / 2 := by
  have h1 : a % b < b := Nat.mod_lt _ h0
  have h2 : b % (a % b) < a % b := Nat.mod_lt _ hb
  have h3 := Nat.div_add_mod b (a % b)
  have h4 : 1 ≤ b / (a % b) := Nat.div_pos (Nat.le_of_lt h1) hb
  have h5 : a % b * 1 ≤ a % b * (b / (a % b)) := Nat.mul_le_mul_left _ h4
  omega
theorem nz {b : Nat} (h : 0 < b) (hb : b < 2 ^ 31) : ¬ nI b = 0 := nI_ne0 h hb
theorem m_gcd_lp (M : zM) : ∀ k n a b, a < 2 ^ 31 → b < 2 ^ k → k ≤ 31 → 2 * k < n → f_X12_gcd_4 n (nI a) (nI b) M = some (nI (Nat.gcd a b), M) := by
  intro k
  induction k with
  | zero =>
    intro n a b ha hb hk hn
    obtain ⟨n, rfl⟩ : ∃ m, n = m + 1 := ⟨n - 1, by omega⟩
    obtain rfl : b = 0 := by omega
    rw [f_X12_gcd_4, if_pos n0, Nat.gcd_zero_right]
  | succ k ih =>
    intro n a b ha hb hk hn
    obtain ⟨n, rfl⟩ : ∃ m, n = m + 2 := ⟨n - 2, by omega⟩
    have hp : 2 ^ (k + 1) ≤ 2 ^ 31 := Nat.pow_le_pow_right (by omega) hk
    rw [f_X12_gcd_4]
    rcases Nat.eq_zero_or_pos b with h0 | h0
    · subst h0
      rw [if_pos n0, Nat.gcd_zero_right]
    · have hm := Nat.mod_lt a h0
      rw [if_neg (nz h0 (by omega)), if_pos (nz h0 (by omega)), rem_nI ha h0 (by omega), zl_eq, f_X12_gcd_4]
      rcases Nat.eq_zero_or_pos (a % b) with h1 | h1
      · rw [h1, if_pos n0, Nat.gcd_comm a b, Nat.gcd_rec b a, h1, Nat.gcd_zero_left]
      · have hh := mod_half h0 h1
        have hk2 : b % (a % b) < 2 ^ k := by rw [Nat.pow_succ] at hb; omega
        rw [if_neg (nz h1 (by omega)), if_pos (nz h1 (by omega)), rem_nI (by omega) h1 (by omega), zl_eq, ih n (a % b) (b % (a % b)) (by omega) hk2 (by omega) (by omega)]
        rw [Nat.gcd_comm a b, Nat.gcd_rec b a, Nat.gcd_rec (a % b) b, Nat.gcd_comm (b % (a % b))]
theorem m_gcd {a b : Nat} (ha : a < 2 ^ 31) (hb : b < 2 ^ 31) (M : zM) : f_X12_gcd (nI a) (nI b) M = some (nI (Nat.gcd a b), M) := m_gcd_lp M 31 zF a b ha hb (by omega) (by decide)
theorem c_gcd_lp (M : zM) : ∀ k n a b c, a < 2 ^ 31 → b < 2 ^ k → k ≤ 31 → c + 2 * k ≤ 63 → 2 * k < n → f_X11_commonDivisor_7 n (nI a) (nI b) (nI c) M = some (nI (Nat.gcd a b), M) := by
  intro k
  induction k with
  | zero =>
    intro n a b c ha hb hk hc hn
    obtain ⟨n, rfl⟩ : ∃ m, n = m + 1 := ⟨n - 1, by omega⟩
    obtain rfl : b = 0 := by omega
    rw [f_X11_commonDivisor_7, if_neg (show ¬ (64 : Int32) ≤ nI c from nI_ge (b := 64) (by omega) (by omega)), if_pos n0, Nat.gcd_zero_right]
  | succ k ih =>
    intro n a b c ha hb hk hc hn
    obtain ⟨n, rfl⟩ : ∃ m, n = m + 2 := ⟨n - 2, by omega⟩
    have hp : 2 ^ (k + 1) ≤ 2 ^ 31 := Nat.pow_le_pow_right (by omega) hk
    rw [f_X11_commonDivisor_7, if_neg (show ¬ (64 : Int32) ≤ nI c from nI_ge (b := 64) (by omega) (by omega))]
    rcases Nat.eq_zero_or_pos b with h0 | h0
    · subst h0
      rw [if_pos n0, Nat.gcd_zero_right]
    · have hm := Nat.mod_lt a h0
      rw [if_neg (nz h0 (by omega)), if_pos (nz h0 (by omega)), rem_nI ha h0 (by omega), zl_eq, zl_eq, nI_1, f_X11_commonDivisor_7, if_neg (show ¬ (64 : Int32) ≤ nI (c + 1) from nI_ge (b := 64) (by omega) (by omega))]
      rcases Nat.eq_zero_or_pos (a % b) with h1 | h1
      · rw [h1, if_pos n0, Nat.gcd_comm a b, Nat.gcd_rec b a, h1, Nat.gcd_zero_left]
      · have hh := mod_half h0 h1
        have hk2 : b % (a % b) < 2 ^ k := by rw [Nat.pow_succ] at hb; omega
        rw [if_neg (nz h1 (by omega)), if_pos (nz h1 (by omega)), rem_nI (by omega) h1 (by omega), zl_eq, zl_eq, nI_1, ih n (a % b) (b % (a % b)) (c + 1 + 1) (by omega) hk2 (by omega) (by omega) (by omega)]
        rw [Nat.gcd_comm a b, Nat.gcd_rec b a, Nat.gcd_rec (a % b) b, Nat.gcd_comm (b % (a % b))]
theorem c_gcd {a b : Nat} (ha : a < 2 ^ 31) (hb : b < 2 ^ 31) (M : zM) : f_X11_commonDivisor (nI a) (nI b) M = some (nI (Nat.gcd a b), M) := c_gcd_lp M 31 zF a b 0 ha hb (by omega) (by omega) (by decide)
theorem c_reduced {a b w : Nat} (ha : a < 2 ^ 31) (h0 : 0 < b) (hb : b < 2 ^ 31) (hw : w ≤ 1) (M : zM) : f_X11_reduced (nI a) (nI b) (nI w) M = some (nI ((if w = 0 then a else b) / Nat.gcd a b), M) := by
  have hg : 0 < Nat.gcd a b := Nat.gcd_pos_of_pos_right _ h0
  have hg2 : Nat.gcd a b ≤ b := Nat.gcd_le_right _ h0
  rw [f_X11_reduced, c_gcd ha hb, z_call_eq, if_neg (nz hg (by omega))]
  rcases (show w = 0 ∨ w = 1 by omega) with rfl | rfl
  · rw [if_pos n0, if_pos (nz hg (by omega)), nI_div ha hg (by omega), if_pos rfl]
  · rw [if_neg (by decide), if_pos (nz hg (by omega)), nI_div hb hg (by omega), if_neg (by omega)]
theorem m_red {u l w : Nat} (hu : u < 2 ^ 31) (h0 : 0 < l) (hl : l < 2 ^ 31) (hw : w ≤ 1) (M : zM) : f_X12_odds_147 (nI w) (nI u) (nI l) M = some (nI ((if w = 0 then u else l) / Nat.gcd u l), M) := by
  have hg : 0 < Nat.gcd u l := Nat.gcd_pos_of_pos_right _ h0
  have hg2 : Nat.gcd u l ≤ l := Nat.gcd_le_right _ h0
  rw [f_X12_odds_147, m_gcd hl hu, z_call_eq, Nat.gcd_comm l u]
  rcases (show w = 0 ∨ w = 1 by omega) with rfl | rfl
  · rw [if_pos n0, if_pos (nz hg (by omega)), nI_div hu hg (by omega), if_pos rfl]
  · rw [if_neg (by decide), if_pos (nz hg (by omega)), nI_div hl hg (by omega), if_neg (by omega)]
theorem c_takes24 {M : zM} {o : Nat} : f_X8_takesPart o (nI 24) M = some (0, M) := by
  rw [f_X8_takesPart, f_X11_isRoom, if_neg (by decide), if_pos (by decide), z_call_eq, if_pos rfl]
theorem red10 {u l w : Nat} (h0 : 0 < l) : (if w = 0 then u * 10 else l * 10) / Nat.gcd (u * 10) (l * 10) = (if w = 0 then u else l) / Nat.gcd u l := by
  rw [Nat.gcd_mul_right]
  split
  · rw [Nat.mul_div_mul_right _ _ (by omega)]
  · rw [Nat.mul_div_mul_right _ _ (by omega)]
theorem red0 {l w : Nat} (h0 : 0 < l) : (if w = 0 then 0 else l) / Nat.gcd 0 l = (if w = 0 then 0 else 1) / Nat.gcd 0 1 := by
  rw [Nat.gcd_zero_left, Nat.gcd_zero_left]
  split
  · simp
  · rw [Nat.div_self h0]
theorem odds_lp {M : zM} {N : Nat → Nat} (hS : ST M) (hN : MN M 55 N) (hC : CS M 3 N) (hR : NR N) {r to t w : Nat} (hr : r < 24) (hto : to ≤ 24) (ht : t ≤ 10) (hw : w ≤ 1) : ∀ m n1 n2 k u l, r / 4 + k + m = 5 → m + 1 < n1 → m + 1 < n2 → u ≤ l → 0 < l → l ≤ 10 ^ k → ∃ v, f_X11_odds_51 0 (nI to) (nI t) (nI w) n1 (nI u) (nI l) (nI (upn N r k)) (nI k) M = some (v, M) ∧ f_X12_odds_52 54 (nI to) (nI t) (nI w) n2 (nI u) (nI l) (nI (upn N r (k + 1))) M = some (v, M) := by
  intro m
  induction m with
  | zero =>
    intro n1 n2 k u l hk h1 h2 hu hl0 hl
    obtain ⟨n1, rfl⟩ : ∃ m, n1 = m + 2 := ⟨n1 - 2, by omega⟩
    obtain ⟨n2, rfl⟩ : ∃ m, n2 = m + 1 := ⟨n2 - 1, by omega⟩
    have u1 := upn_lt (N := N) hr k (by omega)
    have e24 : upn N r (k + 1) = 24 := abv_hi (by omega)
    have hk5 : 10 ^ k ≤ 10 ^ 5 := Nat.pow_le_pow_right (by omega) (by omega)
    have ha : f_X8_above 3 (nI (upn N r k)) M = some (nI 24, M) := by rw [c_above hO3 hS hC hR u1.1, ← e24]; rfl
    rw [e24]
    by_cases h : to = 24
    · subst h
      refine ⟨nI ((if w = 0 then u else l) / Nat.gcd u l), ?_, ?_⟩
      · rw [f_X11_odds_51, if_neg (show ¬ (5 : Int32) < nI k from nI_nlt (a := 5) (by omega) (by omega)), if_neg (by rw [show (24 : Int32) = nI 24 from rfl, nI_eq (by omega) (by omega)]; omega), (ST.a hS (o := 0) (k := 1) (a := 3) (by decide)), z_rd_eq, ha, z_call_eq, (ST.a hS (o := 0) (k := 1) (a := 3) (by decide)), z_rd_eq, c_takes24, z_call_eq, if_pos rfl, if_pos (by decide), f_X11_odds_114, show (10 : Int32) = nI 10 from rfl, nI_mul, nI_mul, c_reduced (by omega) (by omega) (by omega) hw, z_call_eq, red10 hl0]
      · rw [f_X12_odds_52, if_pos (by decide), f_X12_odds_101, if_pos rfl, f_X12_odds_110, if_pos rfl, if_pos (by decide), m_red (by omega) hl0 (by omega) hw]
    · have hne : ¬ nI 24 = nI to := by rw [nI_eq (by omega) (by omega)]; omega
      refine ⟨nI ((if w = 0 then 0 else 1) / Nat.gcd 0 1), ?_, ?_⟩
      · rw [f_X11_odds_51, if_neg (show ¬ (5 : Int32) < nI k from nI_nlt (a := 5) (by omega) (by omega)), if_neg (by rw [show (24 : Int32) = nI 24 from rfl, nI_eq (by omega) (by omega)]; omega), (ST.a hS (o := 0) (k := 1) (a := 3) (by decide)), z_rd_eq, ha, z_call_eq, (ST.a hS (o := 0) (k := 1) (a := 3) (by decide)), z_rd_eq, c_takes24, z_call_eq, if_neg hne, if_pos rfl, f_X11_odds_153, zl_eq, nI_1, f_X11_odds_51]
        have h159 : f_X11_odds_159 (nI w) M = some (nI ((if w = 0 then 0 else 1) / Nat.gcd 0 1), M) := by
          rw [f_X11_odds_159]
          have := c_reduced (a := 0) (b := 1) (by omega) (by omega) (by omega) hw M
          rw [show (0 : Int32) = nI 0 from rfl, show (1 : Int32) = nI 1 from rfl, this, z_call_eq]
        by_cases h6 : (5 : Int32) < nI (k + 1)
        · rw [if_pos h6, h159]
        · rw [if_neg h6, if_pos (by decide), h159]
      · have := m_red (u := 0) (l := l) (by omega) hl0 (by omega) hw M
        rw [f_X12_odds_52, if_pos (by decide), f_X12_odds_101, if_neg hne, f_X12_odds_110, if_neg hne, show (0 : Int32) = nI 0 from rfl, this, red0 hl0]
  | succ m ih =>
    intro n1 n2 k u l hk h1 h2 hu hl0 hl
    obtain ⟨n1, rfl⟩ : ∃ m, n1 = m + 1 := ⟨n1 - 1, by omega⟩
    obtain ⟨n2, rfl⟩ : ∃ m, n2 = m + 1 := ⟨n2 - 1, by omega⟩
    have u1 := upn_lt (N := N) hr k (by omega)
    have u2 := upn_lt (N := N) hr (k + 1) (by omega)
    have hk5 : 10 ^ k ≤ 10 ^ 5 := Nat.pow_le_pow_right (by omega) (by omega)
    have ha : f_X8_above 3 (nI (upn N r k)) M = some (nI (upn N r (k + 1)), M) := c_above hO3 hS hC hR u1.1
    have hn24 : ¬ nI (upn N r (k + 1)) = (24 : Int32) := by rw [show (24 : Int32) = nI 24 from rfl, nI_eq (by omega) (by omega)]; omega
    have hn24' : ¬ nI (upn N r k) = (24 : Int32) := by rw [show (24 : Int32) = nI 24 from rfl, nI_eq (by omega) (by omega)]; omega
    have hul : u * 10 ≤ 10 ^ 6 ∧ l * 10 ≤ 10 ^ 6 ∧ u * t ≤ u * 10 := ⟨by omega, by omega, Nat.mul_le_mul_left _ ht⟩
    rw [f_X11_odds_51, if_neg (show ¬ (5 : Int32) < nI k from nI_nlt (a := 5) (by omega) (by omega)), if_neg hn24', (ST.a hS (o := 0) (k := 1) (a := 3) (by decide)), z_rd_eq, ha, z_call_eq, (ST.a hS (o := 0) (k := 1) (a := 3) (by decide)), z_rd_eq, c_takesPart hC hR u2.1, z_call_eq, f_X12_odds_52, if_neg hn24]
    by_cases h : upn N r (k + 1) = to
    · subst h
      rw [if_pos rfl, if_neg hn24, if_pos rfl, f_X12_odds_101, if_pos rfl, f_X12_odds_110, if_pos rfl, if_neg hn24, m_takesIn hS hN hR u2.1, z_call_eq]
      by_cases ht2 : tk N (upn N r (k + 1)) = true
      · rw [if_pos ht2, if_neg (by decide), if_neg (by decide), f_X11_odds_114, f_X12_odds_138, show (10 : Int32) = nI 10 from rfl, nI_mul, nI_mul, zl_eq, c_reduced (by omega) (by omega) (by omega) hw, z_call_eq, m_red (by omega) (by omega) (by omega) hw]
        exact ⟨_, rfl, rfl⟩
      · rw [if_neg ht2, if_pos rfl, if_pos rfl, f_X11_odds_114, f_X12_odds_138, show (10 : Int32) = nI 10 from rfl, show (0 : Int32) = nI 0 from rfl, nI_mul, nI_mul, zl_eq, Nat.mul_zero, c_reduced (by omega) (by omega) (by omega) hw, z_call_eq, m_red (by omega) (by omega) (by omega) hw]
        exact ⟨_, rfl, rfl⟩
    · have hne : ¬ nI (upn N r (k + 1)) = nI to := by rw [nI_eq (by omega) (by omega)]; exact h
      rw [if_neg hne, if_neg hn24, if_neg hne, m_takesIn hS hN hR u2.1, z_call_eq]
      simp only [f_X11_odds_153, f_X12_odds_90, zl_eq, nI_1, m_above hS hN hR u2.1, z_call_eq]
      by_cases ht2 : tk N (upn N r (k + 1)) = true
      · rw [if_pos ht2, if_neg (by decide), if_neg (by decide), show (10 : Int32) = nI 10 from rfl, nI_sub ht, nI_mul, nI_mul]
        have b1 : u * (10 - t) ≤ l * 10 := Nat.mul_le_mul hu (by omega)
        exact ih n1 n2 (k + 1) _ _ (by omega) (by omega) (by omega) b1 (by omega) (by rw [Nat.pow_succ]; exact Nat.mul_le_mul_right 10 hl)
      · rw [if_neg ht2, if_pos rfl, if_pos rfl]
        exact ih n1 n2 (k + 1) _ _ (by omega) (by omega) (by omega) hu hl0 (by rw [Nat.pow_succ]; omega)
theorem p_odds : ok_odds Inv := by
  intro M hI a b c d
  obtain ⟨N, K, hS, hR, hN, hC, hK, hT, hL⟩ := id hI
  rcases room_cases a with ⟨r, hr, rfl⟩ | ha
  · rcases f_in_cases b 24 (by omega) with ⟨to, hto, rfl⟩ | hb
    · rcases f_in_cases c 10 (by omega) with ⟨t, ht, rfl⟩ | hc
      · rcases f_in_cases d 1 (by omega) with ⟨w, hw, rfl⟩ | hd
        · obtain ⟨v, h1, h2⟩ := odds_lp hS hN hC hR hr hto ht hw (5 - r / 4) zF zF 0 1 1 (by omega) (by rw [zF_eq]; omega) (by rw [zF_eq]; omega) (by omega) (by omega) (by omega)
          refine ⟨v, M, M, ?_, ?_, hI⟩
          · rw [f_X11_odds, e_room hr, z_call_eq, if_neg (by decide), e_within, show (24 : Int32) = nI 24 from rfl, e_in1 (by omega) hto, z_call_eq, if_neg (by decide), e_within, show (10 : Int32) = nI 10 from rfl, e_in1 (by omega) ht, z_call_eq, if_neg (by decide), e_within, show (1 : Int32) = nI 1 from rfl, e_in1 (by omega) hw, z_call_eq, if_neg (by decide)]
            exact h1
          · rw [f_X12_odds, e_room2 hr, z_call_eq, if_neg (by decide), show (24 : Int32) = nI 24 from rfl, e_in1 (by omega) hto, z_call_eq, if_neg (by decide), show (10 : Int32) = nI 10 from rfl, e_in1 (by omega) ht, z_call_eq, if_neg (by decide), show (1 : Int32) = nI 1 from rfl, e_in1 (by omega) hw, z_call_eq, if_neg (by decide), m_above hS hN hR hr, z_call_eq]
            exact h2
        · refine ⟨-1, M, M, ?_, ?_, hI⟩
          · rw [f_X11_odds, e_room hr, z_call_eq, if_neg (by decide), e_within, show (24 : Int32) = nI 24 from rfl, e_in1 (by omega) hto, z_call_eq, if_neg (by decide), e_within, show (10 : Int32) = nI 10 from rfl, e_in1 (by omega) ht, z_call_eq, if_neg (by decide), e_within, show (1 : Int32) = nI 1 from rfl, e_in0 (by omega) hd, z_call_eq, if_pos rfl]
          · rw [f_X12_odds, e_room2 hr, z_call_eq, if_neg (by decide), show (24 : Int32) = nI 24 from rfl, e_in1 (by omega) hto, z_call_eq, if_neg (by decide), show (10 : Int32) = nI 10 from rfl, e_in1 (by omega) ht, z_call_eq, if_neg (by decide), show (1 : Int32) = nI 1 from rfl, e_in0 (by omega) hd, z_call_eq, if_pos rfl]
      · refine ⟨-1, M, M, ?_, ?_, hI⟩
        · rw [f_X11_odds, e_room hr, z_call_eq, if_neg (by decide), e_within, show (24 : Int32) = nI 24 from rfl, e_in1 (by omega) hto, z_call_eq, if_neg (by decide), e_within, show (10 : Int32) = nI 10 from rfl, e_in0 (by omega) hc, z_call_eq, if_pos rfl]
        · rw [f_X12_odds, e_room2 hr, z_call_eq, if_neg (by decide), show (24 : Int32) = nI 24 from rfl, e_in1 (by omega) hto, z_call_eq, if_neg (by decide), show (10 : Int32) = nI 10 from rfl, e_in0 (by omega) hc, z_call_eq, if_pos rfl]
    · refine ⟨-1, M, M, ?_, ?_, hI⟩
      · rw [f_X11_odds, e_room hr, z_call_eq, if_neg (by decide), e_within, show (24 : Int32) = nI 24 from rfl, e_in0 (by omega) hb, z_call_eq, if_pos rfl]
      · rw [f_X12_odds, e_room2 hr, z_call_eq, if_neg (by decide), show (24 : Int32) = nI 24 from rfl, e_in0 (by omega) hb, z_call_eq, if_pos rfl]
  · refine ⟨-1, M, M, ?_, ?_, hI⟩
    · rw [f_X11_odds, (ha M).1, z_call_eq, if_pos rfl]
    · rw [f_X12_odds, (ha M).2, z_call_eq, if_pos rfl]
