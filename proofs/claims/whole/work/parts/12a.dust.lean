/-! dust: the least and the median -/
def ct (P : Nat → Bool) : Nat → Nat
  | 0 => 0
  | n + 1 => ct P n + if P n then 1 else 0
theorem ct_s {P : Nat → Bool} {n : Nat} : ct P (n + 1) = ct P n + if P n then 1 else 0 := rfl
theorem ct_le (P : Nat → Bool) : ∀ n, ct P n ≤ n := by
  intro n
  induction n with
  | zero => exact Nat.le_refl _
  | succ n ih => simp only [ct]; by_cases h : P n = true <;> simp [h] <;> omega
theorem ct_mono {P Q : Nat → Bool} {n : Nat} (h : ∀ k, k < n → P k = true → Q k = true) : ct P n ≤ ct Q n := by
  induction n with
  | zero => exact Nat.le_refl _
  | succ n ih =>
    have h1 := ih (fun k hk => h k (by omega))
    have h2 := h n (by omega)
    simp only [ct]
    by_cases hp : P n = true
    · rw [if_pos hp, if_pos (h2 hp)]; omega
    · rw [if_neg hp]; omega
theorem ct_congr {P Q : Nat → Bool} {n : Nat} (h : ∀ k, k < n → P k = Q k) : ct P n = ct Q n := by
  induction n with
  | zero => rfl
  | succ n ih => simp only [ct]; rw [ih (fun k hk => h k (by omega)), h n (by omega)]
theorem ct_pos {P : Nat → Bool} {n : Nat} (h : 0 < ct P n) : ∃ k, k < n ∧ P k = true := by
  induction n with
  | zero => simp [ct] at h
  | succ n ih =>
    by_cases hp : P n = true
    · exact ⟨n, by omega, hp⟩
    · simp only [ct] at h
      rw [if_neg hp] at h
      obtain ⟨k, k1, k2⟩ := ih (by omega)
      exact ⟨k, by omega, k2⟩
theorem ct_lt {P Q : Nat → Bool} {n k : Nat} (h : ∀ k, k < n → P k = true → Q k = true) (hk : k < n) (hq : Q k = true) (hp : P k = false) : ct P n < ct Q n := by
  induction n with
  | zero => omega
  | succ n ih =>
    have h1 : ct P n ≤ ct Q n := ct_mono (fun k hk => h k (by omega))
    simp only [ct]
    by_cases e : k = n
    · rw [← e, if_pos hq, if_neg (by rw [hp]; decide), e]; omega
    · have := ih (fun k hk => h k (by omega)) (by omega)
      by_cases hp' : P n = true
      · rw [if_pos hp', if_pos (h n (by omega) hp')]; omega
      · rw [if_neg hp']; omega
theorem ct_add {P Q R : Nat → Bool} {n : Nat} (h : ∀ k, k < n → (if R k then 1 else 0) = (if P k then 1 else 0) + (if Q k then 1 else 0)) : ct R n = ct P n + ct Q n := by
  induction n with
  | zero => rfl
  | succ n ih => simp only [ct]; rw [ih (fun k hk => h k (by omega)), h n (by omega)]; omega
theorem ct_cut {P : Nat → Bool} {r : Nat} : ∀ n, r ≤ n → ct (fun q => P q && decide (q < r)) n = ct P r := by
  intro n
  induction n with
  | zero => intro h; obtain rfl : r = 0 := by omega
            rfl
  | succ n ih =>
    intro h
    by_cases e : r = n + 1
    · subst e
      exact ct_congr (fun k hk => by simp [hk])
    · simp only [ct]
      rw [ih (by omega), if_neg (by simp; omega)]
      rfl
/-- what is felt in a room -/
def FE (N : Nat → Nat) (r : Nat) : Nat := g_sum N (120 + 24 * r) 24
theorem FE_lt {N : Nat → Nat} (hR : NR N) {r : Nat} (hr : r < 24) : FE N r < 2400000 := by
  have h : FE N r ≤ 24 * 99999 := g_sum_le (fun k hk => by
    rw [Nat.add_assoc]
    exact hR.2.2.2.2.2.1 (24 * r + k) (by omega))
  omega
def ls (N : Nat → Nat) (b : Nat) : Nat → Bool := fun q => decide (N q = 1) && decide (FE N q < b)
def pl (N : Nat → Nat) (r : Nat) : Nat → Bool := fun q => decide (N q = 1) && (decide (FE N q < FE N r) || (decide (FE N q = FE N r) && decide (q < r)))
theorem many_ct {N : Nat → Nat} (h : ∀ r, r < 24 → N r ≤ 1) : ∀ n, n ≤ 24 → g_sum N 0 n = ct (fun q => decide (N q = 1)) n := by
  intro n
  induction n with
  | zero => intro _; rfl
  | succ n ih =>
    intro hn
    simp only [g_sum, ct]
    rw [ih (by omega), Nat.zero_add]
    have := h n (by omega)
    by_cases e : N n = 1
    · rw [if_pos (by simp [e]), e]
    · rw [if_neg (by simp [e])]; omega
theorem pc_bits {N : Nat → Nat} (h : ∀ r, r < 24 → N r ≤ 1) : ∀ n, n ≤ 24 → pc (g_bits N 0 24) n = g_sum N 0 n := by
  intro n
  induction n with
  | zero => intro _; rfl
  | succ n ih =>
    intro hn
    simp only [g_sum, pc]
    have ht := g_bits_test (N := N) (b := 0) (n := 24) (fun k hk => by rw [Nat.zero_add]; exact h k hk) n (by omega)
    have hb := bit_of (g := g_bits N 0 24) (j := n)
    rw [Nat.zero_add] at ht
    rw [ht, Nat.and_one_is_mod] at hb
    rw [ih (by omega), hb, Nat.zero_add]
    have := h n (by omega)
    by_cases e : N n = 1
    · rw [if_pos (by simp [e]), e]
    · rw [if_neg (by simp [e])]; omega
theorem bits_0 {N : Nat → Nat} (h : ∀ r, r < 24 → N r ≤ 1) : g_bits N 0 24 = 0 ↔ g_sum N 0 24 = 0 := by
  constructor
  · intro q
    rw [← pc_bits h 24 (by omega), q]
    decide
  · intro q
    have h0 := g_sum_0.mp q
    rw [g_bits_congr (N := fun _ => 0) (fun k hk => h0 k hk)]
    have : ∀ n, g_bits (fun _ => 0) 0 n = 0 := by
      intro n
      induction n with
      | zero => rfl
      | succ n ih => simp only [g_bits]; rw [ih]; simp
    exact this 24
theorem c_less_lp {M : zM} {N : Nat → Nat} {b : Nat} (hS : ST M) (hC : CS M 3 N) (hR : NR N) (hb : b < 2 ^ 31) : ∀ m n i, i + m = 24 → m < n → f_X11_guestsWhoFeelLessThan_4 0 (nI b) n (nI (ct (ls N b) i)) (nI i) M = some (nI (ct (ls N b) 24), M) := by
  intro m
  induction m with
  | zero =>
    intro n i hi hn
    obtain ⟨n, rfl⟩ : ∃ m, n = m + 1 := ⟨n - 1, by omega⟩
    obtain rfl : i = 24 := by omega
    rw [f_X11_guestsWhoFeelLessThan_4, if_pos (by decide)]
  | succ m ih =>
    intro n i hi hn
    obtain ⟨n, rfl⟩ : ∃ m, n = m + 1 := ⟨n - 1, by omega⟩
    have hg := hR.1 i (by omega)
    have hf := FE_lt hR (r := i) (by omega)
    have c5 : M.1 8 i = nI (FE N i) := hC.2.2.2.2.1 i (by omega)
    have hi2 := ih n (i + 1) (by omega) (by omega)
    rw [ct_s (n := i)] at hi2
    rw [f_X11_guestsWhoFeelLessThan_4, if_neg (show ¬ (24 : Int32) ≤ nI i from nI_ge (b := 24) (by omega) (by omega)), (ST.a hS (o := 0) (k := 1) (a := 3) (by decide)), z_rd_eq, c_hasGuest hC hR (by omega), z_call_eq]
    by_cases e : N i = 1
    · rw [e, if_neg (by decide), (ST.a hS (o := 0) (k := 1) (a := 3) (by decide)), z_rd_eq, (ST.a hS (o := 3) (k := 4) (a := 8) (by decide)), z_rd_eq, if_pos (by rw [z_ixN (by omega), ln8]; omega), nI_clamp (by omega), c5]
      simp only [f_X11_guestsWhoFeelLessThan_37, zl_eq, nI_1]
      by_cases h : FE N i < b
      · rw [if_neg (nI_ge h hb)]
        rw [if_pos (by simp [ls, e, h])] at hi2
        exact hi2
      · rw [if_pos ((nI_leI hb (by omega)).mpr (by omega))]
        rw [if_neg (by simp [ls, h])] at hi2
        exact hi2
    · rw [show N i = 0 by omega, if_pos (show nI 0 = 0 from rfl), f_X11_guestsWhoFeelLessThan_37, zl_eq, nI_1]
      rw [if_neg (by simp [ls, e])] at hi2
      exact hi2
theorem c_less {M : zM} {N : Nat → Nat} {b : Nat} (hS : ST M) (hC : CS M 3 N) (hR : NR N) (hb : b < 2 ^ 31) : f_X11_guestsWhoFeelLessThan 0 (nI b) M = some (nI (ct (ls N b) 24), M) := c_less_lp hS hC hR hb 24 zF 0 (by omega) (by decide)
theorem m_place_lp {M : zM} {N : Nat → Nat} {r : Nat} (hS : ST M) (hN : MN M 55 N) (hR : NR N) (hr : r < 24) : ∀ m n i, i + m = 24 → m < n → f_X12_placeOf_4 54 (nI r) n (nI (ct (pl N r) i)) (nI i) M = some (nI (ct (pl N r) 24), M) := by
  intro m
  induction m with
  | zero =>
    intro n i hi hn
    obtain ⟨n, rfl⟩ : ∃ m, n = m + 1 := ⟨n - 1, by omega⟩
    obtain rfl : i = 24 := by omega
    rw [f_X12_placeOf_4, if_pos (by decide)]
  | succ m ih =>
    intro n i hi hn
    obtain ⟨n, rfl⟩ : ∃ m, n = m + 1 := ⟨n - 1, by omega⟩
    have hg := hR.1 i (by omega)
    have hf := FE_lt hR (r := i) (by omega)
    have hf2 := FE_lt hR hr
    have hi2 := ih n (i + 1) (by omega) (by omega)
    rw [ct_s (n := i)] at hi2
    have fi : f_X12_feltIn 54 (nI i) M = some (nI (FE N i), M) := m_feltIn hS hN (by omega)
    have fr : f_X12_feltIn 54 (nI r) M = some (nI (FE N r), M) := m_feltIn hS hN hr
    rw [f_X12_placeOf_4, if_neg (show ¬ (24 : Int32) ≤ nI i from nI_ge (b := 24) (by omega) (by omega)), (ST.a hS (o := 54) (k := 0) (a := 55) (by decide)), z_rd_eq, Int32.zero_add, if_pos (by rw [z_ixN (by omega), ln55]; omega), nI_clamp (by omega), hN i (by omega)]
    by_cases e : N i = 1
    · rw [e, if_pos (show nI 1 = 1 from rfl), fi, z_call_eq, fr, z_call_eq]
      simp only [f_X12_placeOf_53, f_X12_placeOf_57, zl_eq, nI_1]
      by_cases h : FE N i < FE N r
      · rw [if_pos ((nI_ltI (by omega) (by omega)).mpr h)]
        rw [if_pos (by simp [pl, e, h])] at hi2
        exact hi2
      · rw [if_neg (fun q => h ((nI_ltI (by omega) (by omega)).mp q)), fi, z_call_eq, fr, z_call_eq]
        by_cases h2 : FE N i = FE N r
        · rw [if_pos (by rw [h2])]
          by_cases h3 : i < r
          · rw [if_neg (nI_ge h3 (by omega))]
            rw [if_pos (by simp [pl, e, h2, h3])] at hi2
            exact hi2
          · rw [if_pos ((nI_leI (by omega) (by omega)).mpr (by omega))]
            rw [if_neg (by simp [pl, h2, h3])] at hi2
            exact hi2
        · rw [if_neg (fun q => h2 ((nI_eq (by omega) (by omega)).mp q))]
          rw [if_neg (by simp [pl, h, h2])] at hi2
          exact hi2
    · rw [show N i = 0 by omega, if_neg (by decide), f_X12_placeOf_57, zl_eq, nI_1]
      rw [if_neg (by simp [pl, e])] at hi2
      exact hi2
theorem m_place {M : zM} {N : Nat → Nat} {r : Nat} (hS : ST M) (hN : MN M 55 N) (hR : NR N) (hr : r < 24) : f_X12_placeOf 54 (nI r) M = some (nI (ct (pl N r) 24), M) := m_place_lp hS hN hR hr 24 zF 0 (by omega) (by decide)
theorem c_least_lp {M : zM} {N : Nat → Nat} (hS : ST M) (hC : CS M 3 N) (hR : NR N) : ∀ m n i (x : Int32), i + m = 24 → m < n → ((x = -2 ∧ ∀ q, q < i → N q = 0) ∨ (∃ l, l < i ∧ x = nI l ∧ N l = 1 ∧ ∀ q, q < i → N q = 1 → FE N l < FE N q ∨ (FE N l = FE N q ∧ l ≤ q))) → ∃ x', f_X11_guestWhoFeelsLeast_5 0 n x (nI i) M = some (x', M) ∧ ((x' = -2 ∧ ∀ q, q < 24 → N q = 0) ∨ (∃ l, l < 24 ∧ x' = nI l ∧ N l = 1 ∧ ∀ q, q < 24 → N q = 1 → FE N l < FE N q ∨ (FE N l = FE N q ∧ l ≤ q))) := by
  intro m
  induction m with
  | zero =>
    intro n i x hi hn hx
    obtain ⟨n, rfl⟩ : ∃ m, n = m + 1 := ⟨n - 1, by omega⟩
    obtain rfl : i = 24 := by omega
    refine ⟨x, ?_, hx⟩
    rw [f_X11_guestWhoFeelsLeast_5, if_pos (by decide)]
  | succ m ih =>
    intro n i x hi hn hx
    obtain ⟨n, rfl⟩ : ∃ m, n = m + 1 := ⟨n - 1, by omega⟩
    have hg := hR.1 i (by omega)
    have hf := FE_lt hR (r := i) (by omega)
    have c5 : ∀ r, r < 24 → M.1 8 r = nI (FE N r) := fun r hr => hC.2.2.2.2.1 r hr
    rw [f_X11_guestWhoFeelsLeast_5, if_neg (show ¬ (24 : Int32) ≤ nI i from nI_ge (b := 24) (by omega) (by omega)), (ST.a hS (o := 0) (k := 1) (a := 3) (by decide)), z_rd_eq, c_hasGuest hC hR (by omega), z_call_eq]
    by_cases e : N i = 1
    · rw [e, if_neg (by decide)]
      rcases hx with ⟨rfl, hx⟩ | ⟨l, l1, rfl, l2, l3⟩
      · rw [if_pos (by decide), f_X11_guestWhoFeelsLeast_47, f_X11_guestWhoFeelsLeast_49, zl_eq, nI_1]
        refine ih n (i + 1) _ (by omega) (by omega) (Or.inr ⟨i, by omega, rfl, e, fun q hq hq2 => ?_⟩)
        by_cases hqi : q = i
        · rw [hqi]; exact Or.inr ⟨rfl, Nat.le_refl _⟩
        · rw [hx q (by omega)] at hq2; omega
      · have hfl := FE_lt hR (r := l) (by omega)
        rw [if_neg (nI_pos (by omega)), (ST.a hS (o := 0) (k := 1) (a := 3) (by decide)), z_rd_eq, (ST.a hS (o := 3) (k := 4) (a := 8) (by decide)), z_rd_eq, ln8, if_pos (by rw [z_ixN (by omega)]; omega), z_rd_eq, (ST.a hS (o := 3) (k := 4) (a := 8) (by decide)), z_rd_eq, ln8, if_pos (by rw [z_ixN (by omega)]; omega), nI_clamp (by omega), nI_clamp (by omega), c5 l (by omega), c5 i (by omega)]
        by_cases h : FE N l ≤ FE N i
        · rw [if_pos ((nI_leI (by omega) (by omega)).mpr h), f_X11_guestWhoFeelsLeast_49, zl_eq, nI_1]
          refine ih n (i + 1) _ (by omega) (by omega) (Or.inr ⟨l, by omega, rfl, l2, fun q hq hq2 => ?_⟩)
          by_cases hqi : q = i
          · rw [hqi]
            by_cases h2 : FE N l = FE N i
            · exact Or.inr ⟨h2, by omega⟩
            · exact Or.inl (by omega)
          · exact l3 q (by omega) hq2
        · rw [if_neg (fun z => h ((nI_leI (by omega) (by omega)).mp z)), f_X11_guestWhoFeelsLeast_47, f_X11_guestWhoFeelsLeast_49, zl_eq, nI_1]
          refine ih n (i + 1) _ (by omega) (by omega) (Or.inr ⟨i, by omega, rfl, e, fun q hq hq2 => ?_⟩)
          by_cases hqi : q = i
          · rw [hqi]; exact Or.inr ⟨rfl, Nat.le_refl _⟩
          · rcases l3 q (by omega) hq2 with h3 | ⟨h3, _⟩
            · exact Or.inl (by omega)
            · exact Or.inl (by omega)
    · have e0 : N i = 0 := by omega
      rw [e0, if_pos (show nI 0 = 0 from rfl), f_X11_guestWhoFeelsLeast_49, zl_eq, nI_1]
      refine ih n (i + 1) _ (by omega) (by omega) ?_
      rcases hx with ⟨rfl, hx⟩ | ⟨l, l1, rfl, l2, l3⟩
      · refine Or.inl ⟨rfl, fun q hq => ?_⟩
        by_cases hqi : q = i
        · rw [hqi]; exact e0
        · exact hx q (by omega)
      · refine Or.inr ⟨l, by omega, rfl, l2, fun q hq hq2 => ?_⟩
        by_cases hqi : q = i
        · rw [hqi] at hq2; omega
        · exact l3 q (by omega) hq2
/-- the reference finds the first place -/
theorem m_dust0_lp {M : zM} {N : Nat → Nat} {l : Nat} {x2 : Int32} (hS : ST M) (hN : MN M 55 N) (hR : NR N) (hl : l < 24) (h1 : N l = 1) (h0 : ct (pl N l) 24 = 0) (hu : ∀ r, r < l → N r = 1 → ct (pl N r) 24 ≠ 0) : ∀ m n i, i + m = l → m + 1 < n → f_X12_dust_26 54 0 n x2 (nI i) M = some (nI l, M) := by
  intro m
  induction m with
  | zero =>
    intro n i hi hn
    obtain ⟨n, rfl⟩ : ∃ m, n = m + 1 := ⟨n - 1, by omega⟩
    obtain rfl : i = l := by omega
    rw [f_X12_dust_26, if_neg (show ¬ (24 : Int32) ≤ nI i from nI_ge (b := 24) (by omega) (by omega)), (ST.a hS (o := 54) (k := 0) (a := 55) (by decide)), z_rd_eq, Int32.zero_add, if_pos (by rw [z_ixN (by omega), ln55]; omega), nI_clamp (by omega), hN i (by omega), h1, if_neg (by decide), if_pos rfl, m_place hS hN hR (by omega), z_call_eq, h0, if_pos (show nI 0 = 0 from rfl)]
  | succ m ih =>
    intro n i hi hn
    obtain ⟨n, rfl⟩ : ∃ m, n = m + 1 := ⟨n - 1, by omega⟩
    have hg := hR.1 i (by omega)
    have hc := ct_le (pl N i) 24
    have hi2 := ih n (i + 1) (by omega) (by omega)
    rw [f_X12_dust_26, if_neg (show ¬ (24 : Int32) ≤ nI i from nI_ge (b := 24) (by omega) (by omega)), (ST.a hS (o := 54) (k := 0) (a := 55) (by decide)), z_rd_eq, Int32.zero_add, if_pos (by rw [z_ixN (by omega), ln55]; omega), nI_clamp (by omega), hN i (by omega)]
    by_cases e : N i = 1
    · rw [e, if_neg (by decide), if_pos rfl, m_place hS hN hR (by omega), z_call_eq, if_neg (show ¬ nI (ct (pl N i) 24) = 0 from fun q => hu i (by omega) e ((nI_eq (b := 0) (by omega) (by omega)).mp q)), f_X12_dust_60, if_neg (by decide), f_X12_dust_84, zl_eq, nI_1]
      exact hi2
    · rw [show N i = 0 by omega, if_pos (show nI 0 = 0 from rfl), f_X12_dust_84, zl_eq, nI_1]
      exact hi2
theorem m_dust1_lp {M : zM} {N : Nat → Nat} {md mn : Nat} (hS : ST M) (hN : MN M 55 N) (hR : NR N) (hx : (nI mn - 1) / 2 = nI md) (hmd : md < 24) : ∀ m n i, i + m = 24 → m < n → (∃ r, i ≤ r ∧ r < 24 ∧ N r = 1 ∧ ct (pl N r) 24 = md) → ∃ r, r < 24 ∧ N r = 1 ∧ ct (pl N r) 24 = md ∧ f_X12_dust_26 54 1 n (nI mn) (nI i) M = some (nI (FE N r), M) := by
  intro m
  induction m with
  | zero =>
    intro n i hi hn hex
    obtain ⟨r, r1, r2, r3, r4⟩ := hex
    omega
  | succ m ih =>
    intro n i hi hn hex
    obtain ⟨n, rfl⟩ : ∃ m, n = m + 1 := ⟨n - 1, by omega⟩
    have hg := hR.1 i (by omega)
    have hc := ct_le (pl N i) 24
    rw [f_X12_dust_26, if_neg (show ¬ (24 : Int32) ≤ nI i from nI_ge (b := 24) (by omega) (by omega)), (ST.a hS (o := 54) (k := 0) (a := 55) (by decide)), z_rd_eq, Int32.zero_add, if_pos (by rw [z_ixN (by omega), ln55]; omega), nI_clamp (by omega), hN i (by omega)]
    by_cases e : N i = 1
    · rw [e, if_neg (by decide), if_neg (by decide), f_X12_dust_60, if_pos rfl, m_place hS hN hR (by omega), z_call_eq, hx]
      by_cases h : ct (pl N i) 24 = md
      · refine ⟨i, by omega, e, h, ?_⟩
        rw [if_pos (by rw [h]), m_feltIn hS hN (by omega), z_call_eq]
        rfl
      · rw [if_neg (fun q => h ((nI_eq (by omega) (by omega)).mp q)), f_X12_dust_84, zl_eq, nI_1]
        refine ih n (i + 1) (by omega) (by omega) ?_
        obtain ⟨r, r1, r2, r3, r4⟩ := hex
        refine ⟨r, ?_, r2, r3, r4⟩
        by_cases hri : r = i
        · rw [hri] at r4; exact absurd r4 h
        · omega
    · rw [show N i = 0 by omega, if_pos (show nI 0 = 0 from rfl), f_X12_dust_84, zl_eq, nI_1]
      refine ih n (i + 1) (by omega) (by omega) ?_
      obtain ⟨r, r1, r2, r3, r4⟩ := hex
      refine ⟨r, ?_, r2, r3, r4⟩
      by_cases hri : r = i
      · rw [hri] at r3; exact absurd r3 e
      · omega
theorem c_med_lp {M : zM} {N : Nat → Nat} {md : Nat} (hS : ST M) (hC : CS M 3 N) (hR : NR N) (hmd : md < 24) : ∀ m n i, i + m = 24 → m < n → (∃ r, i ≤ r ∧ r < 24 ∧ N r = 1 ∧ ct (ls N (FE N r)) 24 ≤ md ∧ md < ct (ls N (FE N r + 1)) 24) → ∃ r, r < 24 ∧ N r = 1 ∧ ct (ls N (FE N r)) 24 ≤ md ∧ md < ct (ls N (FE N r + 1)) 24 ∧ f_X11_medianFelt_17 0 n (nI md) (nI i) M = some (nI (FE N r), M) := by
  intro m
  induction m with
  | zero =>
    intro n i hi hn hex
    obtain ⟨r, r1, r2, r3, r4⟩ := hex
    omega
  | succ m ih =>
    intro n i hi hn hex
    obtain ⟨n, rfl⟩ : ∃ m, n = m + 1 := ⟨n - 1, by omega⟩
    have hg := hR.1 i (by omega)
    have hf := FE_lt hR (r := i) (by omega)
    have c5 : M.1 8 i = nI (FE N i) := hC.2.2.2.2.1 i (by omega)
    have hc1 := ct_le (ls N (FE N i)) 24
    have hc2 := ct_le (ls N (FE N i + 1)) 24
    rw [f_X11_medianFelt_17, if_neg (show ¬ (24 : Int32) ≤ nI i from nI_ge (b := 24) (by omega) (by omega)), (ST.a hS (o := 0) (k := 1) (a := 3) (by decide)), z_rd_eq, c_hasGuest hC hR (by omega), z_call_eq]
    by_cases e : N i = 1
    · rw [e, if_neg (by decide), (ST.a hS (o := 0) (k := 1) (a := 3) (by decide)), z_rd_eq, (ST.a hS (o := 3) (k := 4) (a := 8) (by decide)), z_rd_eq, ln8, if_pos (by rw [z_ixN (by omega)]; omega), nI_clamp (by omega), c5, c_less hS hC hR (by omega), z_call_eq, (ST.a hS (o := 0) (k := 1) (a := 3) (by decide)), z_rd_eq, (ST.a hS (o := 3) (k := 4) (a := 8) (by decide)), z_rd_eq, ln8, if_pos (by rw [z_ixN (by omega)]; omega), c5, nI_1, c_less hS hC hR (by omega), z_call_eq]
      simp only [f_X11_medianFelt_86, zl_eq, nI_1]
      by_cases h1 : ct (ls N (FE N i)) 24 ≤ md
      · rw [if_neg (nI_nlt h1 (by omega))]
        by_cases h2 : md < ct (ls N (FE N i + 1)) 24
        · rw [if_neg (nI_ge h2 (by omega))]
          rw [(ST.a hS (o := 0) (k := 1) (a := 3) (by decide)), z_rd_eq, (ST.a hS (o := 3) (k := 4) (a := 8) (by decide)), z_rd_eq, ln8, if_pos (by rw [z_ixN (by omega)]; omega), c5]
          exact ⟨i, by omega, e, h1, h2, rfl⟩
        · rw [if_pos ((nI_leI (by omega) (by omega)).mpr (by omega))]
          refine ih n (i + 1) (by omega) (by omega) ?_
          obtain ⟨r, r1, r2, r3, r4, r5⟩ := hex
          refine ⟨r, ?_, r2, r3, r4, r5⟩
          by_cases hri : r = i
          · rw [hri] at r5; exact absurd r5 h2
          · omega
      · rw [if_pos ((nI_ltI (by omega) (by omega)).mpr (by omega))]
        refine ih n (i + 1) (by omega) (by omega) ?_
        obtain ⟨r, r1, r2, r3, r4, r5⟩ := hex
        refine ⟨r, ?_, r2, r3, r4, r5⟩
        by_cases hri : r = i
        · rw [hri] at r4; exact absurd r4 h1
        · omega
    · rw [show N i = 0 by omega, if_pos (show nI 0 = 0 from rfl), f_X11_medianFelt_86, zl_eq, nI_1]
      refine ih n (i + 1) (by omega) (by omega) ?_
      obtain ⟨r, r1, r2, r3, r4⟩ := hex
      refine ⟨r, ?_, r2, r3, r4⟩
      by_cases hri : r = i
      · rw [hri] at r3; exact absurd r3 e
      · omega
/-- between 0 and n a row that begins at most at a bound and ends above it crosses it -/
theorem cross {f : Nat → Nat} {md : Nat} : ∀ n, f 0 ≤ md → md < f n → ∃ k, k < n ∧ f k ≤ md ∧ md < f (k + 1) := by
  intro n
  induction n with
  | zero => intro h1 h2; omega
  | succ n ih =>
    intro h1 h2
    by_cases h : md < f n
    · obtain ⟨k, k1, k2⟩ := ih h1 h
      exact ⟨k, by omega, k2⟩
    · exact ⟨n, by omega, by omega, h2⟩
theorem med_ex {N : Nat → Nat} {md : Nat} (hR : NR N) (h : md < ct (fun q => decide (N q = 1)) 24) : ∃ r, r < 24 ∧ N r = 1 ∧ ct (pl N r) 24 = md := by
  obtain ⟨b, b1, b2, b3⟩ := cross (f := fun b => ct (ls N b) 24) (md := md) 2400000 (by
    show ct (ls N 0) 24 ≤ md
    rw [ct_congr (Q := fun _ => false) (fun k _ => by simp [ls])]
    exact Nat.zero_le _) (by
    show md < ct (ls N 2400000) 24
    rw [ct_congr (Q := fun q => decide (N q = 1)) (fun k hk => by
      have := FE_lt hR hk
      simp [ls, this])]
    exact h)
  have b2' : ct (ls N b) 24 ≤ md := b2
  have b3' : md < ct (ls N (b + 1)) 24 := b3
  have hs : ct (ls N (b + 1)) 24 = ct (ls N b) 24 + ct (fun q => decide (N q = 1) && decide (FE N q = b)) 24 := ct_add (fun k _ => by
    by_cases e : N k = 1
    · by_cases e1 : FE N k < b
      · simp [ls, e, e1, show FE N k < b + 1 by omega, show ¬ FE N k = b by omega]
      · by_cases e2 : FE N k = b
        · simp [ls, e, e2]
        · simp [ls, e, e1, e2, show ¬ FE N k < b + 1 by omega]
    · simp [ls, e])
  obtain ⟨r, r1, r2, r3⟩ := cross (f := fun i => ct (ls N b) 24 + ct (fun q => decide (N q = 1) && decide (FE N q = b)) i) (md := md) 24 (by simpa [ct] using b2') (by show md < ct (ls N b) 24 + ct (fun q => decide (N q = 1) && decide (FE N q = b)) 24; omega)
  have r2' : ct (ls N b) 24 + ct (fun q => decide (N q = 1) && decide (FE N q = b)) r ≤ md := r2
  have r3' : md < ct (ls N b) 24 + ct (fun q => decide (N q = 1) && decide (FE N q = b)) (r + 1) := r3
  rw [ct_s (n := r)] at r3'
  by_cases hp : (decide (N r = 1) && decide (FE N r = b)) = true
  · rw [if_pos hp] at r3'
    simp only [Bool.and_eq_true, decide_eq_true_eq] at hp
    refine ⟨r, r1, hp.1, ?_⟩
    have : ct (pl N r) 24 = ct (ls N b) 24 + ct (fun q => (decide (N q = 1) && decide (FE N q = b)) && decide (q < r)) 24 := ct_add (fun k _ => by
      by_cases e : N k = 1
      · by_cases e1 : FE N k < b
        · simp [pl, ls, hp.2, e, e1, show ¬ FE N k = b by omega]
        · by_cases e2 : FE N k = b
          · simp [pl, ls, hp.2, e, e2]
          · simp [pl, ls, hp.2, e, e1, e2]
      · simp [pl, ls, e])
    rw [this, ct_cut (P := fun q => decide (N q = 1) && decide (FE N q = b)) 24 (by omega)]
    omega
  · rw [if_neg hp] at r3'
    omega

theorem lex_pl {N : Nat → Nat} {l r : Nat} (hl : l < 24) (h1 : N l = 1) (hne : FE N l < FE N r ∨ (FE N l = FE N r ∧ l < r)) : ct (pl N r) 24 ≠ 0 := by
  intro h
  have hp : pl N r l = true := by
    rcases hne with q | ⟨q1, q2⟩
    · simp [pl, h1, q]
    · simp [pl, h1, q1, q2]
  have := ct_lt (P := fun _ => false) (Q := pl N r) (n := 24) (fun k _ q => by simp at q) hl hp rfl
  omega
theorem p_dust : ok_dust Inv := by
  intro M hI a
  obtain ⟨N, K, hS, hR, hN, hC, hK, hT, hL⟩ := id hI
  have hb := g_bits_lt (N := N) (b := 0) (n := 24) (fun k hk => by rw [Nat.zero_add]; exact hR.1 k hk)
  have hsum : g_sum N 0 24 = ct (fun q => decide (N q = 1)) 24 := many_ct hR.1 24 (by omega)
  have hcl := ct_le (fun q => decide (N q = 1)) 24
  have cg : M.1 3 5 = nI (g_bits N 0 24) := hC.2.2.2.2.2.1
  have ms : f_X12_sumOf 54 0 M = some (nI (g_sum N 0 24), M) := m_sumOf hS hN (b := 0) (by omega)
  rcases f_in_cases a 1 (by omega) with ⟨x, hx, rfl⟩ | ha
  · by_cases h0 : g_sum N 0 24 = 0
    · refine ⟨-2, M, M, ?_, ?_, hI⟩
      · rw [f_X11_dust, e_within, show f_X12_in (nI x) 0 1 M = some (1, M) from e_in1 (by omega) hx M, z_call_eq, if_neg (by decide), (ST.a hS (o := 0) (k := 1) (a := 3) (by decide)), z_rd_eq, cg, (bits_0 hR.1).mpr h0, if_pos (show nI 0 = 0 from rfl)]
      · rw [f_X12_dust, show f_X12_in (nI x) 0 1 M = some (1, M) from e_in1 (by omega) hx M, z_call_eq, if_neg (by decide), ms, z_call_eq, h0, if_pos (show nI 0 = 0 from rfl)]
    · have hbn : ¬ nI (g_bits N 0 24) = 0 := fun q => h0 ((bits_0 hR.1).mp ((nI_eq (b := 0) (by omega) (by omega)).mp q))
      have hsn : ¬ nI (g_sum N 0 24) = 0 := fun q => h0 ((nI_eq (b := 0) (by omega) (by omega)).mp q)
      rcases (show x = 0 ∨ x = 1 by omega) with rfl | rfl
      · obtain ⟨x', c1, c2⟩ := c_least_lp hS hC hR 24 zF 0 (-2) (by omega) (by unfold zF; omega) (Or.inl ⟨rfl, fun q hq => by omega⟩)
        rcases c2 with ⟨_, c2⟩ | ⟨l, l1, rfl, l2, l3⟩
        · exact absurd (g_sum_0.mpr (fun k hk => by rw [Nat.zero_add]; exact c2 k hk)) h0
        · refine ⟨nI l, M, M, ?_, ?_, hI⟩
          · rw [f_X11_dust, e_within, show f_X12_in (nI 0) 0 1 M = some (1, M) from e_in1 (by omega) hx M, z_call_eq, if_neg (by decide), (ST.a hS (o := 0) (k := 1) (a := 3) (by decide)), z_rd_eq, cg, if_neg hbn, if_pos (show nI 0 = 0 from rfl), f_X11_guestWhoFeelsLeast, show f_X11_guestWhoFeelsLeast_5 0 zF (-2) 0 M = some (nI l, M) from c1, z_call_eq]
          · rw [f_X12_dust, show f_X12_in (nI 0) 0 1 M = some (1, M) from e_in1 (by omega) hx M, z_call_eq, if_neg (by decide), ms, z_call_eq, if_neg hsn]
            refine m_dust0_lp hS hN hR l1 l2 ?_ ?_ l zF 0 (by omega) (by unfold zF; omega)
            · rw [ct_congr (Q := fun _ => false) (fun k hk => ?_)]
              · rfl
              · by_cases e : N k = 1
                · rcases l3 k hk e with q | ⟨q1, q2⟩
                  · simp [pl, e, show ¬ FE N k < FE N l by omega, show ¬ FE N k = FE N l by omega]
                  · simp [pl, e, q1]
                    omega
                · simp [pl, e]
            · intro r hr hr1
              refine lex_pl l1 l2 ?_
              rcases l3 r (by omega) hr1 with q | ⟨q1, q2⟩
              · exact Or.inl q
              · omega
      · obtain ⟨r0, e1, e2, e3⟩ := med_ex (md := (g_sum N 0 24 - 1) / 2) hR (by omega)
        have hmd : (g_sum N 0 24 - 1) / 2 < 24 := by omega
        have hmx : (nI (g_sum N 0 24) - 1) / 2 = nI ((g_sum N 0 24 - 1) / 2) := by
          rw [show nI (g_sum N 0 24) - 1 = nI (g_sum N 0 24 - 1) from nI_sub (b := 1) (by omega)]
          exact nI_div (d := 2) (by omega) (by omega) (by omega)
        obtain ⟨r, m1, m2, m3, m4⟩ := m_dust1_lp hS hN hR hmx hmd 24 zF 0 (by omega) (by unfold zF; omega) ⟨r0, Nat.zero_le _, e1, e2, e3⟩
        have sand : ∀ q, q < 24 → N q = 1 → ct (pl N q) 24 = (g_sum N 0 24 - 1) / 2 → ct (ls N (FE N q)) 24 ≤ (g_sum N 0 24 - 1) / 2 ∧ (g_sum N 0 24 - 1) / 2 < ct (ls N (FE N q + 1)) 24 := by
          intro q hq hq1 hq2
          rw [← hq2]
          refine ⟨ct_mono (fun k _ hk => ?_), ct_lt (k := q) (fun k _ hk => ?_) hq ?_ ?_⟩
          · simp [ls] at hk
            simp [pl, hk.1, hk.2]
          · simp [pl] at hk
            simp [ls, hk.1]
            omega
          · simp [ls, hq1]
          · simp [pl]
        obtain ⟨r', c1, c2, c3, c4, c5⟩ := c_med_lp hS hC hR hmd 24 zF 0 (by omega) (by unfold zF; omega) ⟨r, Nat.zero_le _, m1, m2, sand r m1 m2 m3⟩
        have hsr := sand r m1 m2 m3
        have hmono : ∀ b c, b ≤ c → ct (ls N b) 24 ≤ ct (ls N c) 24 := fun b c h => ct_mono (fun k _ hk => by
          simp [ls] at hk ⊢
          exact ⟨hk.1, by omega⟩)
        have hv : FE N r' = FE N r := by
          by_cases q1 : FE N r' < FE N r
          · have := hmono (FE N r' + 1) (FE N r) (by omega)
            omega
          · by_cases q2 : FE N r < FE N r'
            · have := hmono (FE N r + 1) (FE N r') (by omega)
              omega
            · omega
        refine ⟨nI (FE N r), M, M, ?_, ?_, hI⟩
        · rw [f_X11_dust, e_within, show f_X12_in (nI 1) 0 1 M = some (1, M) from e_in1 (by omega) hx M, z_call_eq, if_neg (by decide), (ST.a hS (o := 0) (k := 1) (a := 3) (by decide)), z_rd_eq, cg, if_neg hbn, if_neg (by decide), f_X11_medianFelt, (ST.a hS (o := 0) (k := 1) (a := 3) (by decide)), z_rd_eq, cg, c_bitCount hb, z_call_eq, pc_bits hR.1 24 (by omega), zl_eq, hmx, show f_X11_medianFelt_17 0 zF (nI ((g_sum N 0 24 - 1) / 2)) 0 M = some (nI (FE N r'), M) from c5, z_call_eq, hv]
        · rw [f_X12_dust, show f_X12_in (nI 1) 0 1 M = some (1, M) from e_in1 (by omega) hx M, z_call_eq, if_neg (by decide), ms, z_call_eq, if_neg hsn]
          exact m4
  · refine ⟨-1, M, M, ?_, ?_, hI⟩
    · rw [f_X11_dust, e_within, show f_X12_in a 0 1 M = some (0, M) from e_in0 (n := 1) (by omega) ha M, z_call_eq, if_pos rfl]
    · rw [f_X12_dust, show f_X12_in a 0 1 M = some (0, M) from e_in0 (n := 1) (by omega) ha M, z_call_eq, if_pos rfl]
