/-! ways up: way, cowls, fromWhere, meet -/
def upn (N : Nat → Nat) (j : Nat) : Nat → Nat
  | 0 => j
  | k + 1 => abv N (upn N j k)
theorem upn_lt {N : Nat → Nat} {j : Nat} (hj : j < 24) : ∀ k, j / 4 + k ≤ 5 → upn N j k < 24 ∧ upn N j k / 4 = j / 4 + k := by
  intro k
  induction k with
  | zero => intro _; exact ⟨hj, rfl⟩
  | succ k ih =>
    intro h
    obtain ⟨h1, h2⟩ := ih (by omega)
    have := abv_lt (N := N) (j := upn N j k) (by omega)
    exact ⟨this.1, by show abv N (upn N j k) / 4 = _; omega⟩
theorem upn_add {N : Nat → Nat} {j a : Nat} : ∀ b, upn N (upn N j a) b = upn N j (a + b) := by
  intro b
  induction b with
  | zero => rfl
  | succ b ih => show abv N (upn N (upn N j a) b) = abv N (upn N j (a + b)); rw [ih]
theorem c_way_lp {M : zM} {N : Nat → Nat} (hS : ST M) (hC : CS M 3 N) (hR : NR N) {j i : Nat} (hj : j < 24) (hi : j / 4 + i ≤ 5) : ∀ m n k, k + m = i + 1 → m < n → f_X11_way_31 0 (nI i) n (nI (upn N j k)) (nI k) M = some (nI (upn N j (i + 1)), M) := by
  intro m
  induction m with
  | zero =>
    intro n k hk hn
    obtain ⟨n, rfl⟩ : ∃ m, n = m + 1 := ⟨n - 1, by omega⟩
    obtain rfl : k = i + 1 := by omega
    rw [f_X11_way_31]
    (simp (disch := omega) only [z_rd_eq, z_call_eq, zl_eq, lit, nI_add, nI_mul, nI_div, nI_sub, nI_clamp, nI_leI, nI_ltI, nI_eq, z_ixN, ifTlt, ifFlt, ifTle, ifFle, ifTeq, ifFeq, if_true, if_false]; try simp (disch := omega) only [ifTlt, ifFlt, ifTle, ifFle, ifTeq, ifFeq, if_true, if_false, z_call_eq, z_rd_eq, zl_eq])
  | succ m ih =>
    intro n k hk hn
    obtain ⟨n, rfl⟩ : ∃ m, n = m + 1 := ⟨n - 1, by omega⟩
    have h1 := (upn_lt (N := N) hj k (by omega)).1
    rw [f_X11_way_31]
    (simp (disch := omega) only [z_rd_eq, z_call_eq, zl_eq, lit, nI_add, nI_mul, nI_div, nI_sub, nI_clamp, nI_leI, nI_ltI, nI_eq, z_ixN, ifTlt, ifFlt, ifTle, ifFle, ifTeq, ifFeq, if_true, if_false, (ST.a hS (o := 0) (k := 1) (a := 3) (by decide)), c_above hO3 hS hC hR h1]; try simp (disch := omega) only [ifTlt, ifFlt, ifTle, ifFle, ifTeq, ifFeq, if_true, if_false, z_call_eq, z_rd_eq, zl_eq])
    exact ih n (k + 1) (by omega) (by omega)
theorem m_way_lp {M : zM} {N : Nat → Nat} (hS : ST M) (hN : MN M 55 N) (hR : NR N) {j i : Nat} (hj : j < 24) (hi : j / 4 + i ≤ 5) : ∀ m n k, k + m = i + 1 → m < n → f_X12_way_30 54 (nI i) n (nI (upn N j k)) (nI k) M = some (nI (upn N j (i + 1)), M) := by
  intro m
  induction m with
  | zero =>
    intro n k hk hn
    obtain ⟨n, rfl⟩ : ∃ m, n = m + 1 := ⟨n - 1, by omega⟩
    obtain rfl : k = i + 1 := by omega
    rw [f_X12_way_30]
    (simp (disch := omega) only [z_rd_eq, z_call_eq, zl_eq, lit, nI_add, nI_mul, nI_div, nI_sub, nI_clamp, nI_leI, nI_ltI, nI_eq, z_ixN, ifTlt, ifFlt, ifTle, ifFle, ifTeq, ifFeq, if_true, if_false]; try simp (disch := omega) only [ifTlt, ifFlt, ifTle, ifFle, ifTeq, ifFeq, if_true, if_false, z_call_eq, z_rd_eq, zl_eq])
  | succ m ih =>
    intro n k hk hn
    obtain ⟨n, rfl⟩ : ∃ m, n = m + 1 := ⟨n - 1, by omega⟩
    have h1 := (upn_lt (N := N) hj k (by omega)).1
    rw [f_X12_way_30]
    (simp (disch := omega) only [z_rd_eq, z_call_eq, zl_eq, lit, nI_add, nI_mul, nI_div, nI_sub, nI_clamp, nI_leI, nI_ltI, nI_eq, z_ixN, ifTlt, ifFlt, ifTle, ifFle, ifTeq, ifFeq, if_true, if_false, m_above hS hN hR h1]; try simp (disch := omega) only [ifTlt, ifFlt, ifTle, ifFle, ifTeq, ifFeq, if_true, if_false, z_call_eq, z_rd_eq, zl_eq])
    exact ih n (k + 1) (by omega) (by omega)
theorem zF_eq : zF = 1000 := rfl
theorem m_way {M : zM} {N : Nat → Nat} (hS : ST M) (hN : MN M 55 N) (hR : NR N) {j i : Nat} (hj : j < 24) (hi : j / 4 + i ≤ 5) : f_X12_way 54 (nI j) (nI i) M = some (nI (upn N j (i + 1)), M) := by
  have h := m_way_lp hS hN hR hj hi (i + 1) zF 0 (by omega) (by rw [zF_eq]; omega)
  have e5 : (5 : Int32) - nI j / 4 = nI (5 - j / 4) := by rw [show (4 : Int32) = nI 4 from rfl, nI_div (by omega) (by omega) (by omega), show (5 : Int32) = nI 5 from rfl, nI_sub (by omega)]
  rw [f_X12_way, e_room2 hj, z_call_eq, if_neg (by decide), e5, e_in1 (by omega) (by omega), z_call_eq, if_neg (by decide)]
  exact h
theorem p_way : ok_way Inv := by
  intro M hI a b
  obtain ⟨N, K, hS, hR, hN, hC, hK, hT, hL⟩ := id hI
  rcases room_cases a with ⟨j, hj, rfl⟩ | ha
  · have e5 : (5 : Int32) - nI j / 4 = nI (5 - j / 4) := by rw [show (4 : Int32) = nI 4 from rfl, nI_div (by omega) (by omega) (by omega), show (5 : Int32) = nI 5 from rfl, nI_sub (by omega)]
    rcases f_in_cases b (5 - j / 4) (by omega) with ⟨i, hi, rfl⟩ | hb
    · refine ⟨nI (upn N j (i + 1)), M, M, ?_, m_way hS hN hR hj (by omega), hI⟩
      have h := c_way_lp hS hC hR hj (show j / 4 + i ≤ 5 by omega) (i + 1) zF 0 (by omega) (by rw [zF_eq]; omega)
      rw [f_X11_way, e_room hj, z_call_eq, if_neg (by decide), f_X11_floorOf, z_call_eq, e5, e_within, e_in1 (by omega) hi, z_call_eq, if_neg (by decide)]
      exact h
    · refine ⟨-2, M, M, ?_, ?_, hI⟩
      · rw [f_X11_way, e_room hj, z_call_eq, if_neg (by decide), f_X11_floorOf, z_call_eq, e5, e_within, e_in0 (by omega) hb, z_call_eq, if_pos rfl]
      · rw [f_X12_way, e_room2 hj, z_call_eq, if_neg (by decide), e5, e_in0 (by omega) hb, z_call_eq, if_pos rfl]
  · refine ⟨-1, M, M, ?_, ?_, hI⟩
    · rw [f_X11_way, (ha M).1, z_call_eq, if_pos rfl]
    · rw [f_X12_way, (ha M).2, z_call_eq, if_pos rfl]
