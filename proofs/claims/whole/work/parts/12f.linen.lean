/-! linen: the loops -/
theorem c_round_lp {M : zM} {B : Nat → Nat} {n i L : Nat} (hS : ST M) (hnum : M.1 52 1 = nI n) (h53 : ∀ j, j < n → M.1 53 j = nI (B j)) (hM : PM B n) (hn : n ≤ 24) (hi : i < n) (hP : PS B n i L) : ∀ m nn k, k + m = L → 1 ≤ k → m < nn → f_X3_roundOf_12 52 (nI i) nn (nI (it B k i)) (nI k) (nI k) M = some (nI L, M) := by
  obtain ⟨p1, p2, p3, p4⟩ := hP
  intro m
  induction m with
  | zero =>
    intro nn k hk h1 hnn
    obtain ⟨nn, rfl⟩ : ∃ m, nn = m + 1 := ⟨nn - 1, by omega⟩
    obtain rfl : k = L := by omega
    rw [f_X3_roundOf_12, hnum, p3]
    by_cases q : n ≤ k
    · rw [if_pos ((nI_leI (by omega) (by omega)).mpr q)]
    · rw [if_neg (nI_ge (by omega) (by omega)), if_pos rfl]
  | succ m ih =>
    intro nn k hk h1 hnn
    obtain ⟨nn, rfl⟩ : ∃ m, nn = m + 1 := ⟨nn - 1, by omega⟩
    have hlt := it_lt hM hi k
    rw [f_X3_roundOf_12, hnum, if_neg (nI_ge (by omega) (by omega)), if_neg (fun q => p4 k h1 (by omega) ((nI_eq (by omega) (by omega)).mp q)), (ST.a hS (o := 52) (k := 0) (a := 53) (by decide)), z_rd_eq, ln53, if_pos (by rw [z_ixN (by omega)]; omega), nI_clamp (by omega), h53 _ hlt, zl_eq, zl_eq, zl_eq, nI_1]
    exact ih nn (k + 1) (by omega) (by omega) (by omega)
theorem c_roundOf {M : zM} {B : Nat → Nat} {n i L : Nat} (hS : ST M) (hnum : M.1 52 1 = nI n) (h53 : ∀ j, j < n → M.1 53 j = nI (B j)) (hM : PM B n) (hn : n ≤ 24) (hi : i < n) (hP : PS B n i L) : f_X3_roundOf 52 (nI i) M = some (nI L, M) := by
  have h1 := hP.1
  have h2 := hP.2.1
  rw [f_X3_roundOf, (ST.a hS (o := 52) (k := 0) (a := 53) (by decide)), z_rd_eq, ln53, if_pos (by rw [z_ixN (by omega)]; omega), nI_clamp (by omega), h53 i hi, zl_eq]
  exact c_round_lp hS hnum h53 hM hn hi hP (L - 1) zF 1 (by omega) (by omega) (by unfold zF; omega)
theorem m_round_lp {M : zM} {B : Nat → Nat} {n i L : Nat} (hS : ST M) (hB : TB M B) (hM : PM B n) (hn : n ≤ 24) (hi : i < n) (hP : PS B n i L) : ∀ m nn k, k + m = L → 1 ≤ k → m < nn → f_X12_roundOf_8 54 (nI i) nn (nI k) (nI (it B k i)) M = some (nI L, M) := by
  obtain ⟨p1, p2, p3, p4⟩ := hP
  intro m
  induction m with
  | zero =>
    intro nn k hk h1 hnn
    obtain ⟨nn, rfl⟩ : ∃ m, nn = m + 1 := ⟨nn - 1, by omega⟩
    obtain rfl : k = L := by omega
    rw [f_X12_roundOf_8, p3, if_pos rfl]
  | succ m ih =>
    intro nn k hk h1 hnn
    obtain ⟨nn, rfl⟩ : ∃ m, nn = m + 1 := ⟨nn - 1, by omega⟩
    have hlt := it_lt hM hi k
    rw [f_X12_roundOf_8, if_neg (fun q => p4 k h1 (by omega) ((nI_eq (by omega) (by omega)).mp q)), m_octet hS hB (by omega), z_call_eq, zl_eq, nI_1]
    exact ih nn (k + 1) (by omega) (by omega) (by omega)
theorem m_roundOf {M : zM} {B : Nat → Nat} {n i L : Nat} (hS : ST M) (hB : TB M B) (hM : PM B n) (hn : n ≤ 24) (hi : i < n) (hP : PS B n i L) : f_X12_roundOf 54 (nI i) M = some (nI L, M) := by
  have h1 := hP.1
  have h2 := hP.2.1
  rw [f_X12_roundOf, m_octet hS hB (by omega), z_call_eq]
  exact m_round_lp hS hB hM hn hi hP (L - 1) zF 1 (by omega) (by omega) (by unfold zF; omega)
theorem c_after_lp {M : zM} {B : Nat → Nat} {n i s : Nat} (hS : ST M) (h53 : ∀ j, j < n → M.1 53 j = nI (B j)) (hM : PM B n) (hn : n ≤ 24) (hi : i < n) (hs : s ≤ 24) : ∀ m nn k, k + m = s → m < nn → f_X3_after_5 52 (nI s) nn (nI (it B k i)) (nI k) M = some (nI (it B s i), M) := by
  intro m
  induction m with
  | zero =>
    intro nn k hk hnn
    obtain ⟨nn, rfl⟩ : ∃ m, nn = m + 1 := ⟨nn - 1, by omega⟩
    obtain rfl : k = s := by omega
    rw [f_X3_after_5, if_pos ((nI_leI (by omega) (by omega)).mpr (Nat.le_refl _))]
  | succ m ih =>
    intro nn k hk hnn
    obtain ⟨nn, rfl⟩ : ∃ m, nn = m + 1 := ⟨nn - 1, by omega⟩
    have hlt := it_lt hM hi k
    rw [f_X3_after_5, if_neg (nI_ge (by omega) (by omega)), (ST.a hS (o := 52) (k := 0) (a := 53) (by decide)), z_rd_eq, ln53, if_pos (by rw [z_ixN (by omega)]; omega), nI_clamp (by omega), h53 _ hlt, zl_eq, zl_eq, nI_1]
    exact ih nn (k + 1) (by omega) (by omega)
theorem m_after_lp {M : zM} {B : Nat → Nat} {n i s : Nat} (hS : ST M) (hB : TB M B) (hM : PM B n) (hn : n ≤ 24) (hi : i < n) (hs : s ≤ 24) : ∀ m nn k, k + m = s → m < nn → f_X12_linen_90 54 nn (nI (it B k i)) (nI s) (nI k) M = some (nI (it B s i), M) := by
  intro m
  induction m with
  | zero =>
    intro nn k hk hnn
    obtain ⟨nn, rfl⟩ : ∃ m, nn = m + 1 := ⟨nn - 1, by omega⟩
    obtain rfl : k = s := by omega
    rw [f_X12_linen_90, if_pos ((nI_leI (by omega) (by omega)).mpr (Nat.le_refl _))]
  | succ m ih =>
    intro nn k hk hnn
    obtain ⟨nn, rfl⟩ : ∃ m, nn = m + 1 := ⟨nn - 1, by omega⟩
    have hlt := it_lt hM hi k
    rw [f_X12_linen_90, if_neg (nI_ge (by omega) (by omega)), m_octet hS hB (by omega), z_call_eq, zl_eq, nI_1]
    exact ih nn (k + 1) (by omega) (by omega)
theorem c_low_lp {M : zM} {B : Nat → Nat} {n i L : Nat} (hS : ST M) (hnum : M.1 52 1 = nI n) (h53 : ∀ j, j < n → M.1 53 j = nI (B j)) (hM : PM B n) (hn : n ≤ 24) (hi : i < n) (hP : PS B n i L) : ∀ m nn k, k + m = L → 1 ≤ k → m < nn → (∀ j, j < k → i ≤ it B j i) → f_X3_isLowestOfRound_9 52 (nI i) nn (nI (it B k i)) (nI k) M = some (if lead B n i then 1 else 0, M) := by
  have hP' := hP
  obtain ⟨p1, p2, p3, p4⟩ := hP
  intro m
  induction m with
  | zero =>
    intro nn k hk h1 hnn hj
    obtain ⟨nn, rfl⟩ : ∃ m, nn = m + 1 := ⟨nn - 1, by omega⟩
    obtain rfl : k = L := by omega
    have hl : lead B n i = true := by
      refine decide_eq_true (fun q _ => ?_)
      rw [it_mod hP' q]
      exact hj _ (Nat.mod_lt _ (by omega))
    rw [f_X3_isLowestOfRound_9, hnum, p3, hl, show (if true = true then (1 : Int32) else 0) = 1 from rfl]
    by_cases q : n ≤ k
    · rw [if_pos ((nI_leI (by omega) (by omega)).mpr q)]
    · rw [if_neg (nI_ge (by omega) (by omega)), if_pos rfl]
  | succ m ih =>
    intro nn k hk h1 hnn hj
    obtain ⟨nn, rfl⟩ : ∃ m, nn = m + 1 := ⟨nn - 1, by omega⟩
    have hlt := it_lt hM hi k
    rw [f_X3_isLowestOfRound_9, hnum, if_neg (nI_ge (by omega) (by omega)), if_neg (fun q => p4 k h1 (by omega) ((nI_eq (by omega) (by omega)).mp q))]
    by_cases q : i ≤ it B k i
    · rw [if_pos ((nI_leI (by omega) (by omega)).mpr q), (ST.a hS (o := 52) (k := 0) (a := 53) (by decide)), z_rd_eq, ln53, if_pos (by rw [z_ixN (by omega)]; omega), nI_clamp (by omega), h53 _ hlt, zl_eq, zl_eq, nI_1]
      refine ih nn (k + 1) (by omega) (by omega) (by omega) (fun j hjk => ?_)
      by_cases e : j = k
      · rw [e]; exact q
      · exact hj j (by omega)
    · rw [if_neg (fun z => q ((nI_leI (by omega) (by omega)).mp z))]
      have hl : lead B n i = false := decide_eq_false (fun h => q (h k (by omega)))
      rw [hl]
      rfl
theorem c_lowest {M : zM} {B : Nat → Nat} {n i L : Nat} (hS : ST M) (hnum : M.1 52 1 = nI n) (h53 : ∀ j, j < n → M.1 53 j = nI (B j)) (hM : PM B n) (hn : n ≤ 24) (hi : i < n) (hP : PS B n i L) : f_X3_isLowestOfRound 52 (nI i) M = some (if lead B n i then 1 else 0, M) := by
  have h1 := hP.1
  have h2 := hP.2.1
  rw [f_X3_isLowestOfRound, (ST.a hS (o := 52) (k := 0) (a := 53) (by decide)), z_rd_eq, ln53, if_pos (by rw [z_ixN (by omega)]; omega), nI_clamp (by omega), h53 i hi, zl_eq]
  refine c_low_lp hS hnum h53 hM hn hi hP (L - 1) zF 1 (by omega) (by omega) (by unfold zF; omega) (fun j hj => ?_)
  obtain rfl : j = 0 := by omega
  exact Nat.le_refl _
theorem c_weeks_lp {M : zM} {B L : Nat → Nat} {n : Nat} (hS : ST M) (hnum : M.1 52 1 = nI n) (h53 : ∀ j, j < n → M.1 53 j = nI (B j)) (hM : PM B n) (hn : n ≤ 24) (hP : ∀ i, i < n → PS B n i (L i)) : ∀ m nn r, r + m = n → m < nn → f_X3_weeksTillHome_4 52 nn (nI (wk L r)) (nI r) M = some (nI (wk L n), M) := by
  intro m
  induction m with
  | zero =>
    intro nn r hr hnn
    obtain ⟨nn, rfl⟩ : ∃ m, nn = m + 1 := ⟨nn - 1, by omega⟩
    obtain rfl : r = n := by omega
    rw [f_X3_weeksTillHome_4, hnum, if_pos ((nI_leI (by omega) (by omega)).mpr (Nat.le_refl _))]
  | succ m ih =>
    intro nn r hr hnn
    obtain ⟨nn, rfl⟩ : ∃ m, nn = m + 1 := ⟨nn - 1, by omega⟩
    obtain ⟨w1, w2⟩ := wk_lt hM hP (show r ≤ n by omega) hn
    have p1 := (hP r (by omega)).1
    have p2 := (hP r (by omega)).2.1
    have hgp : 0 < Nat.gcd (wk L r) (L r) := Nat.gcd_pos_of_pos_left _ w1
    have hgl : Nat.gcd (wk L r) (L r) ≤ L r := Nat.le_of_dvd p1 (Nat.gcd_dvd_right _ _)
    rw [f_X3_weeksTillHome_4, hnum, if_neg (nI_ge (by omega) (by omega)), c_roundOf hS hnum h53 hM hn (by omega) (hP r (by omega)), z_call_eq, c_gcd (by omega) (by omega), z_call_eq, if_neg (show ¬ nI (Nat.gcd (wk L r) (L r)) ≤ 0 from fun q => by have := (nI_leI (b := 0) (by omega) (by omega)).mp q; omega), if_pos (nz hgp (by omega)), nI_div (by omega) hgp (by omega), nI_mul, zl_eq, f_X3_weeksTillHome_37, zl_eq, nI_1]
    exact ih nn (r + 1) (by omega) (by omega)
theorem c_rounds_lp {M : zM} {B L : Nat → Nat} {n : Nat} (hS : ST M) (hnum : M.1 52 1 = nI n) (h53 : ∀ j, j < n → M.1 53 j = nI (B j)) (hM : PM B n) (hn : n ≤ 24) (hP : ∀ i, i < n → PS B n i (L i)) : ∀ m nn r, r + m = n → m < nn → f_X3_rounds_4 52 nn (nI (rdn B n r)) (nI r) M = some (nI (rdn B n n), M) := by
  intro m
  induction m with
  | zero =>
    intro nn r hr hnn
    obtain ⟨nn, rfl⟩ : ∃ m, nn = m + 1 := ⟨nn - 1, by omega⟩
    obtain rfl : r = n := by omega
    rw [f_X3_rounds_4, hnum, if_pos ((nI_leI (by omega) (by omega)).mpr (Nat.le_refl _))]
  | succ m ih =>
    intro nn r hr hnn
    obtain ⟨nn, rfl⟩ : ∃ m, nn = m + 1 := ⟨nn - 1, by omega⟩
    have hi := ih nn (r + 1) (by omega) (by omega)
    rw [show rdn B n (r + 1) = rdn B n r + if lead B n r then 1 else 0 from rfl] at hi
    rw [f_X3_rounds_4, hnum, if_neg (nI_ge (by omega) (by omega)), c_lowest hS hnum h53 hM hn (by omega) (hP r (by omega)), z_call_eq]
    cases hl : lead B n r with
    | false =>
      rw [hl] at hi
      rw [if_pos (show (if false = true then (1 : Int32) else 0) = 0 from rfl), f_X3_rounds_23, zl_eq, nI_1]
      exact hi
    | true =>
      rw [hl] at hi
      rw [if_neg (show ¬ (if true = true then (1 : Int32) else 0) = 0 by decide), zl_eq, f_X3_rounds_23, zl_eq, nI_1, nI_1]
      exact hi
-- the reference strikes rounds out
def zc (Z : Nat → Nat) (f : Nat → Nat) (r : Nat) : Nat → Nat → Nat
  | 0 => Z
  | k + 1 => va_up (zc Z f r k) (it f k r) 0
theorem zc_0 {Z f : Nat → Nat} {r : Nat} : ∀ k q, (∃ j, j < k ∧ it f j r = q) → zc Z f r k q = 0 := by
  intro k
  induction k with
  | zero => intro q ⟨j, j1, _⟩; omega
  | succ k ih =>
    intro q ⟨j, j1, j2⟩
    show va_up (zc Z f r k) (it f k r) 0 q = 0
    by_cases e : q = it f k r
    · rw [e, va_eq]
    · rw [va_ne e]
      refine ih q ⟨j, ?_, j2⟩
      by_cases ej : j = k
      · rw [ej] at j2; exact absurd j2.symm e
      · omega
theorem zc_n {Z f : Nat → Nat} {r : Nat} : ∀ k q, (¬ ∃ j, j < k ∧ it f j r = q) → zc Z f r k q = Z q := by
  intro k
  induction k with
  | zero => intro q _; rfl
  | succ k ih =>
    intro q h
    show va_up (zc Z f r k) (it f k r) 0 q = _
    rw [va_ne (fun e => h ⟨k, by omega, e.symm⟩)]
    exact ih q (fun ⟨j, j1, j2⟩ => h ⟨j, by omega, j2⟩)
theorem zc_1 {Z f : Nat → Nat} {r : Nat} (h : ∀ q, q < 24 → Z q ≤ 1) (k q : Nat) (hq : q < 24) : zc Z f r k q ≤ 1 := by
  by_cases e : ∃ j, j < k ∧ it f j r = q
  · rw [zc_0 k q e]; omega
  · rw [zc_n k q e]; exact h q hq
theorem m_strike_lp {M : zM} {B Z : Nat → Nat} {n r L : Nat} {x1 x3 x4 x6 : Int32} {K : Int32 → Int32 → Int32 → Int32 → zM → Option (Int32 × zM)} (hS : ST M) (hB : TB M B) (hM : PM B n) (hn : n ≤ 24) (hr : r < n) (hP : PS B n r L) (hZ : ∀ q, q < 24 → Z q ≤ 1) : ∀ m nn k, k + m = L → 1 ≤ k → m < nn → f_X12_linen_197 54 x1 x3 K nn x4 (nI (g_bits (zc Z B r k) 0 24)) x6 (nI r) (nI (it B k r)) M = K x4 (nI (g_bits (zc Z B r L) 0 24)) x6 (nI (r + 1)) M := by
  obtain ⟨p1, p2, p3, p4⟩ := hP
  intro m
  induction m with
  | zero =>
    intro nn k hk h1 hnn
    obtain ⟨nn, rfl⟩ : ∃ m, nn = m + 1 := ⟨nn - 1, by omega⟩
    obtain rfl : k = L := by omega
    rw [f_X12_linen_197, p3, if_pos rfl, f_X12_linen_226, zl_eq, nI_1]
  | succ m ih =>
    intro nn k hk h1 hnn
    obtain ⟨nn, rfl⟩ : ∃ m, nn = m + 1 := ⟨nn - 1, by omega⟩
    have hlt := it_lt hM hr k
    rw [f_X12_linen_197, if_neg (fun q => p4 k h1 (by omega) ((nI_eq (by omega) (by omega)).mp q)), bit_clr (zc_1 hZ k) (by omega), zl_eq, m_octet hS hB (by omega), z_call_eq]
    exact ih nn (k + 1) (by omega) (by omega) (by omega)
theorem m_linen_lp {M : zM} {B L : Nat → Nat} {n : Nat} {x3 : Int32} (hS : ST M) (hB : TB M B) (hM : PM B n) (hn : n ≤ 24) (hP : ∀ i, i < n → PS B n i (L i)) : ∀ m nn r (Z : Nat → Nat), r + m = n → m < nn → (∀ q, q < 24 → Z q ≤ 1) → (∀ q, q < n → (Z q = 1 ↔ ¬ ∃ j, j < r ∧ ∃ k, it B k j = q)) → f_X12_linen_130 54 (nI n) x3 nn (nI (wk L r)) (nI (g_bits Z 0 24)) (nI (rdn B n r)) (nI r) M = some (if x3 = 100 then nI (wk L n) else nI (rdn B n n), M) := by
  intro m
  induction m with
  | zero =>
    intro nn r Z hr hnn hZ hZ2
    obtain ⟨nn, rfl⟩ : ∃ m, nn = m + 1 := ⟨nn - 1, by omega⟩
    obtain rfl : r = n := by omega
    rw [f_X12_linen_130, if_pos ((nI_leI (by omega) (by omega)).mpr (Nat.le_refl _))]
    by_cases q : x3 = 100
    · rw [if_pos q, if_pos q]
    · rw [if_neg q, if_neg q]
  | succ m ih =>
    intro nn r Z hr hnn hZ hZ2
    obtain ⟨nn, rfl⟩ : ∃ m, nn = m + 1 := ⟨nn - 1, by omega⟩
    obtain ⟨w1, w2⟩ := wk_lt hM hP (show r ≤ n by omega) hn
    have hPr := hP r (by omega)
    have p1 := hPr.1
    have p2 := hPr.2.1
    have hgp : 0 < Nat.gcd (wk L r) (L r) := Nat.gcd_pos_of_pos_left _ w1
    have hgl : Nat.gcd (wk L r) (L r) ≤ L r := Nat.le_of_dvd p1 (Nat.gcd_dvd_right _ _)
    have hzr := hZ r (by omega)
    rw [f_X12_linen_130, if_neg (nI_ge (by omega) (by omega)), m_roundOf hS hB hM hn (by omega) hPr, z_call_eq, m_gcd (by omega) (by omega), z_call_eq, if_pos (nz hgp (by omega)), m_roundOf hS hB hM hn (by omega) hPr, z_call_eq, nI_div (by omega) hgp (by omega), nI_mul, zl_eq, f_X12_has, bit_test hZ (by omega)]
    have hrd : rdn B n (r + 1) = rdn B n r + if lead B n r then 1 else 0 := rfl
    by_cases hl : Z r = 1
    · have hle : lead B n r = true := by
        cases q : lead B n r with
        | true => rfl
        | false => exact absurd ((nlead hP (by omega)).mp q) ((hZ2 r (by omega)).mp hl)
      rw [hle, if_pos rfl] at hrd
      rw [hl, if_pos (show nI 1 = 1 from rfl), z_call_eq, if_neg (by decide), zl_eq, m_octet hS hB (by omega), z_call_eq, bit_clr hZ (by omega), zl_eq, nI_1]
      have hst := m_strike_lp (M := M) (Z := Z) (x1 := nI n) (x3 := x3) (x4 := nI (wk L r / Nat.gcd (wk L r) (L r) * L r)) (x6 := nI (rdn B n r + 1)) (K := f_X12_linen_130 54 (nI n) x3 nn) hS hB hM hn (by omega) hPr hZ (L r - 1) zF 1 (by omega) (by omega) (by unfold zF; omega)
      rw [show f_X12_linen_197 54 (nI n) x3 (f_X12_linen_130 54 (nI n) x3 nn) zF (nI (wk L r / Nat.gcd (wk L r) (L r) * L r)) (nI (g_bits (va_up Z r 0) 0 24)) (nI (rdn B n r + 1)) (nI r) (nI (B r)) M = _ from hst, ← hrd]
      refine ih nn (r + 1) (zc Z B r (L r)) (by omega) (by omega) (zc_1 hZ (L r)) (fun q hq => ?_)
      by_cases e : ∃ k, it B k r = q
      · have e2 : ∃ j, j < L r ∧ it B j r = q := by
          obtain ⟨k, hk⟩ := e
          exact ⟨k % L r, Nat.mod_lt _ p1, by rw [← it_mod hPr k]; exact hk⟩
        rw [zc_0 _ q e2]
        exact ⟨fun h => absurd h (by omega), fun h => absurd ⟨r, by omega, e⟩ h⟩
      · rw [zc_n _ q (fun ⟨j, _, j2⟩ => e ⟨j, j2⟩), hZ2 q hq]
        constructor
        · intro h ⟨j, j1, j2⟩
          by_cases ej : j = r
          · rw [ej] at j2; exact e j2
          · exact h ⟨j, by omega, j2⟩
        · intro h ⟨j, j1, j2⟩
          exact h ⟨j, by omega, j2⟩
    · have h0 : Z r = 0 := by omega
      have hex : ∃ j, j < r ∧ ∃ k, it B k j = r := by
        apply Classical.byContradiction
        intro h
        exact hl ((hZ2 r (by omega)).mpr h)
      have hle : lead B n r = false := (nlead hP (by omega)).mpr hex
      rw [hle] at hrd
      rw [h0, if_neg (by decide), z_call_eq, if_pos rfl, f_X12_linen_226, zl_eq, nI_1]
      have hrd2 : rdn B n r = rdn B n (r + 1) := by rw [hrd]; rfl
      rw [hrd2]
      refine ih nn (r + 1) Z (by omega) (by omega) hZ (fun q hq => ?_)
      rw [hZ2 q hq]
      constructor
      · intro h ⟨j, j1, k, hk⟩
        by_cases ej : j = r
        · obtain ⟨j', j1', k', hk'⟩ := hex
          refine h ⟨j', j1', k + k', ?_⟩
          rw [it_add, hk', ← ej]
          exact hk
        · exact h ⟨j, by omega, k, hk⟩
      · intro h ⟨j, j1, j2⟩
        exact h ⟨j, by omega, j2⟩
theorem all_bits : ∀ n, n ≤ 24 → ((1 : Int32) <<< (nI n &&& 31)) - 1 = nI (g_bits (fun q => if q < n then 1 else 0) 0 24) := by
  intro n hn
  have : ∀ n, n < 25 → ((1 : Int32) <<< (nI n &&& 31)) - 1 = nI (g_bits (fun q => if q < n then 1 else 0) 0 24) := by decide +kernel
  exact this n (by omega)
theorem p_linen : ok_linen Inv := by
  intro M hI a b x
  obtain ⟨N, K, hS, hR, hN, hC, hK, hT, hL⟩ := id hI
  obtain ⟨s, B, q1, q2, q3, q4⟩ := hT.get
  rcases inL_cases a 1 24 (by omega) (by omega) with ⟨n, hn1, hn, rfl, hin⟩ | ha
  · rcases f_in_cases b 1000000 (by omega) with ⟨wks, hwk, rfl⟩ | hb
    · by_cases hs : n ≤ s
      · have hxc : (x = 100 ∨ x = 101 ∨ ∃ w, w < n ∧ x = nI w) ∨ (x ≠ 100 ∧ x ≠ 101 ∧ (x < 0 ∨ nI (n - 1) < x)) := by
          by_cases h1 : x = 100
          · exact Or.inl (Or.inl h1)
          · by_cases h2 : x = 101
            · exact Or.inl (Or.inr (Or.inl h2))
            · rcases f_in_cases x (n - 1) (by omega) with ⟨w, hw, h3⟩ | h3
              · exact Or.inl (Or.inr (Or.inr ⟨w, by omega, h3⟩))
              · exact Or.inr ⟨h1, h2, h3⟩
        have hn1' : nI n - 1 = nI (n - 1) := nI_sub (b := 1) hn1
        rcases hxc with hx | ⟨hx1, hx2, hx3⟩
        · have cc : f_X11_linen 0 (nI n) (nI wks) x M = f_X11_linen_59 0 (nI n) (nI wks) x M := by
            rw [f_X11_linen, e_within, show f_X12_in (nI n) 1 24 M = some (1, M) from hin M, z_call_eq, if_neg (by decide), e_within, show f_X12_in (nI wks) 0 1000000 M = some (1, M) from e_in1 (n := 1000000) (by omega) hwk M, z_call_eq, if_neg (by decide), (ST.a hS (o := 0) (k := 0) (a := 1) (by decide)), z_rd_eq, c_has q2 q1 (by omega), if_pos hs, z_call_eq, if_neg (by decide)]
            rcases hx with hx | hx | ⟨w, hw, hx⟩
            · rw [if_pos hx]
            · rw [if_neg (by rw [hx]; decide), if_pos hx]
            · rw [if_neg (fun q => by have := (nI_eq (b := 100) (by omega) (by omega)).mp (hx.symm.trans q); omega), if_neg (fun q => by have := (nI_eq (b := 101) (by omega) (by omega)).mp (hx.symm.trans q); omega), e_within, hn1', hx, e_in1 (by omega) (by omega), z_call_eq, if_neg (by decide)]
          have mm : ∀ M', f_X12_linen 54 (nI n) (nI wks) x M' = f_X12_linen_43 54 (nI n) (nI wks) x M' := by
            intro M'
            rw [f_X12_linen, show f_X12_in (nI n) 1 24 M' = some (1, M') from hin M', z_call_eq, if_neg (by decide), show f_X12_in (nI wks) 0 1000000 M' = some (1, M') from e_in1 (n := 1000000) (by omega) hwk M', z_call_eq, if_neg (by decide)]
            rcases hx with hx | hx | ⟨w, hw, hx⟩
            · rw [hx, show f_X12_in 100 100 101 M' = some (1, M') by rw [f_X12_in, if_neg (by decide), if_neg (by decide)], z_call_eq, if_neg (by decide)]
            · rw [hx, show f_X12_in 101 100 101 M' = some (1, M') by rw [f_X12_in, if_neg (by decide), if_neg (by decide)], z_call_eq, if_neg (by decide)]
            · rw [hx, show f_X12_in (nI w) 100 101 M' = some (0, M') by rw [f_X12_in, if_pos (show nI w < 100 from (nI_ltI (b := 100) (by omega) (by omega)).mpr (by omega))], z_call_eq, if_pos rfl, hn1', e_in1 (by omega) (by omega), z_call_eq, if_neg (by decide)]
          have s1 : ST (tkM M n) := hS.to rfl
          have t1 : TB (tkM M n) B := q4.tk
          have f2 : Fr [52] (tkM M n) (zu (tkM M n).1 52 1 (nI n), (tkM M n).2) := Fr.zu (by simp)
          have s2 := f2.st s1
          have hlr : f_X3_learn 52 1 (nI n) (tkM M n) = f_X3_learn_15 52 1 zF 0 0 (zu (tkM M n).1 52 1 (nI n), (tkM M n).2) := by
            rw [f_X3_learn, zl_eq, show z_min (nI n) 24 = nI n from (nI_min (b := 24) (by omega) (by omega)).trans (by rw [Nat.min_eq_left hn])]
          have g0 : nI (g_bits (zsn B 0) 0 24) = 0 := by
            have : ∀ k, g_bits (zsn B 0) 0 k = 0 := by
              intro k
              induction k with
              | zero => rfl
              | succ k ih => simp only [g_bits]; rw [ih]; show 0 + 0 * 2 ^ k = 0; omega
            rw [this]; rfl
          have key : ∀ MM : zM, ST MM → TB MM B → ∃ v M', f_X3_learn 52 1 (nI n) (tkM M n) = some (v, M') ∧ Fr [53] (zu (tkM M n).1 52 1 (nI n), (tkM M n).2) M' ∧ f_X12_isOnceEach 54 (nI n) MM = some (v, MM) ∧ (v = 0 ∨ (v = 1 ∧ PM B n ∧ ∀ j, j < n → M'.1 53 j = nI (B j))) := by
            intro MM hSM hBM
            obtain ⟨v, M', v1, v2, v3, v4⟩ := j_learn (B := B) hn n zF 0 (zu (tkM M n).1 52 1 (nI n), (tkM M n).2) MM (by omega) (by unfold zF; omega) s2 hSM (t1.to (f2.1 2 (by decide)) (f2.1 58 (by decide))) hBM (by rw [f2.1 1 (by decide)]; exact tkM_cr.1) (zu_same (tkM M n).1 52 1 _) (fun j hj => by omega) (fun j hj => by omega) (fun a b _ hb => by omega)
            rw [g0] at v1 v3
            exact ⟨v, M', hlr.trans v1, v2, v3, v4⟩
          obtain ⟨v, M1, v1, v2, _, v4⟩ := key (tkM M n) s1 t1
          have sM1 := v2.st s2
          have tM1 : TB M1 B := (t1.to (f2.1 2 (by decide)) (f2.1 58 (by decide))).to (v2.1 2 (by decide)) (v2.1 58 (by decide))
          have f3 : Fr [54] M1 (zu M1.1 54 4 0, M1.2) := Fr.zu (by simp)
          have sM2 := f3.st sM1
          have tM2 : TB (zu M1.1 54 4 0, M1.2) B := tM1.to (f3.1 2 (by decide)) (f3.1 58 (by decide))
          obtain ⟨v', M1', v1', _, v3', _⟩ := key (zu M1.1 54 4 0, M1.2) sM2 tM2
          have evv : v = v' := by
            rw [v1] at v1'
            exact congrArg Prod.fst (Option.some.inj v1')
          rw [← evv] at v3'
          have hnum : M1.1 52 1 = nI n := by
            rw [v2.1 52 (by decide)]
            exact zu_same (tkM M n).1 52 1 _
          have h54 : M1.1 54 = M.1 54 := by rw [v2.1 54 (by decide), f2.1 54 (by decide), tkM_fr.1 54 (by decide)]
          have hIv : Inv (zu M1.1 54 4 0, M1.2) := by
            refine Inv.took hS hR hN hC hK hL q4 (l := [1, 52, 53, 54]) ((((tkM_fr.mono (by decide)).tr (f2.mono (by decide))).tr (v2.mono (by decide))).tr (f3.mono (by decide))) (by decide) ?_ ?_ ?_ ?_
            · rw [f3.1 1 (by decide), v2.1 1 (by decide), f2.1 1 (by decide)]; exact tkM_1
            · exact zu_same M1.1 54 4 0
            · show zu M1.1 54 4 0 54 13 = _
              rw [zu_ne _ _ _ (by decide), h54]
            · show zu M1.1 54 4 0 54 41 = _
              rw [zu_ne _ _ _ (by decide), h54]
          have hc1 : f_X11_linen_59 0 (nI n) (nI wks) x M = (if v = 0 then some ((-2), M1) else (if x = 100 then z_call (f_X3_weeksTillHome 52 M1) fun v_22 M_23 => some (v_22, M_23) else (if x = 101 then z_call (f_X3_rounds 52 M1) fun v_18 M_19 => some (v_18, M_19) else z_call (f_X3_placeOf 52 x (nI wks) M1) fun v_14 M_15 => some (v_14, M_15)))) := by
            rw [f_X11_linen_59, (ST.a hS (o := 0) (k := 0) (a := 1) (by decide)), z_rd_eq, c_take hS (by omega), z_call_eq, (ST.a s1 (o := 0) (k := 10) (a := 52) (by decide)), z_rd_eq, (ST.a s1 (o := 0) (k := 0) (a := 1) (by decide)), z_rd_eq, v1, z_call_eq, (ST.a sM1 (o := 0) (k := 10) (a := 52) (by decide)), z_rd_eq, z_rd_eq, z_rd_eq]
          have hm1 : f_X12_linen_43 54 (nI n) (nI wks) x M1 = (if v = 0 then some ((-2), (zu M1.1 54 4 0, M1.2)) else (if 100 ≤ x then (f_X12_linen_130 54 (nI n) x zF 1 (nI (g_bits (fun q => if q < n then 1 else 0) 0 24)) 0 0 (zu M1.1 54 4 0, M1.2)) else z_call (f_X12_roundOf 54 x (zu M1.1 54 4 0, M1.2)) fun v_9 M_10 => if ¬ ((v_9 : Int32) = 0) then zl ((nI wks - nI wks / v_9 * v_9)) fun x5_13 => (f_X12_linen_90 54 zF x x5_13 0 M_10) else none)) := by
            rw [f_X12_linen_43, h54, q3, if_pos ((nI_leI (by omega) (by omega)).mpr hs), zl_eq, v3', z_call_eq, all_bits n hn, zl_eq]
          rcases v4 with v4 | ⟨v4, hM, h53⟩
          · refine ⟨-2, M1, (zu M1.1 54 4 0, M1.2), ?_, ?_, hIv⟩
            · rw [cc, hc1, if_pos v4]
            · rw [mm, hm1, if_pos v4]
          · obtain ⟨L, hP⟩ := per_fn hM
            have hv0 : ¬ v = 0 := by rw [v4]; decide
            rcases hx with hx | hx | ⟨w, hw, hx⟩
            · refine ⟨nI (wk L n), M1, (zu M1.1 54 4 0, M1.2), ?_, ?_, hIv⟩
              · have h1 : f_X3_weeksTillHome 52 M1 = some (nI (wk L n), M1) := c_weeks_lp sM1 hnum h53 hM hn hP n zF 0 (by omega) (by unfold zF; omega)
                rw [cc, hc1, if_neg hv0, if_pos hx, h1, z_call_eq]
              · have h2 := m_linen_lp (x3 := x) sM2 tM2 hM hn hP n zF 0 (fun q => if q < n then 1 else 0) (by omega) (by unfold zF; omega) (fun q _ => by by_cases e : q < n <;> simp [e]) (fun q hq => by
                  rw [if_pos hq]
                  exact ⟨fun _ ⟨j, j1, _⟩ => by omega, fun _ => rfl⟩)
                rw [if_pos hx] at h2
                rw [mm, hm1, if_neg hv0, if_pos (by rw [hx]; decide)]
                exact h2
            · refine ⟨nI (rdn B n n), M1, (zu M1.1 54 4 0, M1.2), ?_, ?_, hIv⟩
              · have h1 : f_X3_rounds 52 M1 = some (nI (rdn B n n), M1) := c_rounds_lp sM1 hnum h53 hM hn hP n zF 0 (by omega) (by unfold zF; omega)
                rw [cc, hc1, if_neg hv0, if_neg (by rw [hx]; decide), if_pos hx, h1, z_call_eq]
              · have h2 := m_linen_lp (x3 := x) sM2 tM2 hM hn hP n zF 0 (fun q => if q < n then 1 else 0) (by omega) (by unfold zF; omega) (fun q _ => by by_cases e : q < n <;> simp [e]) (fun q hq => by
                  rw [if_pos hq]
                  exact ⟨fun _ ⟨j, j1, _⟩ => by omega, fun _ => rfl⟩)
                rw [if_neg (by rw [hx]; decide)] at h2
                rw [mm, hm1, if_neg hv0, if_pos (by rw [hx]; decide)]
                exact h2
            · have p1 := (hP w hw).1
              have p2 := (hP w hw).2.1
              have hmd : wks % L w < L w := Nat.mod_lt _ p1
              refine ⟨nI (it B (wks % L w) w), M1, (zu M1.1 54 4 0, M1.2), ?_, ?_, hIv⟩
              · have h1 : f_X3_placeOf 52 (nI w) (nI wks) M1 = some (nI (it B (wks % L w) w), M1) := by
                  rw [f_X3_placeOf, c_roundOf sM1 hnum h53 hM hn hw (hP w hw), z_call_eq, if_neg (show ¬ nI (L w) ≤ 0 from fun q => by have := (nI_leI (b := 0) (by omega) (by omega)).mp q; omega), if_pos (nz p1 (by omega)), rem_nI (by omega) p1 (by omega), f_X3_after, show f_X3_after_5 52 (nI (wks % L w)) zF (nI w) 0 M1 = _ from c_after_lp (i := w) sM1 h53 hM hn hw (by omega) (wks % L w) zF 0 (by omega) (by unfold zF; omega), z_call_eq]
                rw [cc, hc1, if_neg hv0, if_neg (fun q => by have := (nI_eq (b := 100) (by omega) (by omega)).mp (hx.symm.trans q); omega), if_neg (fun q => by have := (nI_eq (b := 101) (by omega) (by omega)).mp (hx.symm.trans q); omega), hx, h1, z_call_eq]
              · rw [mm, hm1, if_neg hv0, hx, if_neg (show ¬ (100 : Int32) ≤ nI w from nI_ge (b := 100) (by omega) (by omega)), m_roundOf sM2 tM2 hM hn hw (hP w hw), z_call_eq, if_pos (nz p1 (by omega)), rem_nI (by omega) p1 (by omega), zl_eq]
                exact m_after_lp (i := w) sM2 tM2 hM hn hw (by omega) (wks % L w) zF 0 (by omega) (by unfold zF; omega)
        · refine ⟨-1, M, M, ?_, ?_, hI⟩
          · rw [f_X11_linen, e_within, show f_X12_in (nI n) 1 24 M = some (1, M) from hin M, z_call_eq, if_neg (by decide), e_within, show f_X12_in (nI wks) 0 1000000 M = some (1, M) from e_in1 (n := 1000000) (by omega) hwk M, z_call_eq, if_neg (by decide), (ST.a hS (o := 0) (k := 0) (a := 1) (by decide)), z_rd_eq, c_has q2 q1 (by omega), if_pos hs, z_call_eq, if_neg (by decide), if_neg hx1, if_neg hx2, e_within, hn1', e_in0 (by omega) hx3, z_call_eq, if_pos rfl]
          · have hx4 : f_X12_in x 100 101 M = some (0, M) := by
              rw [f_X12_in]
              by_cases h1 : x < 100
              · rw [if_pos h1]
              · rw [if_neg h1]
                by_cases h2 : (101 : Int32) < x
                · rw [if_pos h2]
                · exfalso
                  have a1 := Int32.le_iff_toInt_le.mp (Int32.not_lt.mp h1)
                  have a2 := Int32.le_iff_toInt_le.mp (Int32.not_lt.mp h2)
                  have e1 : (100 : Int32).toInt = 100 := by decide
                  have e2 : (101 : Int32).toInt = 101 := by decide
                  rw [e1] at a1
                  rw [e2] at a2
                  rcases (show x.toInt = 100 ∨ x.toInt = 101 by omega) with q | q
                  · exact hx1 (Int32.toInt_inj.mp (q.trans e1.symm))
                  · exact hx2 (Int32.toInt_inj.mp (q.trans e2.symm))
            rw [f_X12_linen, show f_X12_in (nI n) 1 24 M = some (1, M) from hin M, z_call_eq, if_neg (by decide), show f_X12_in (nI wks) 0 1000000 M = some (1, M) from e_in1 (n := 1000000) (by omega) hwk M, z_call_eq, if_neg (by decide), hx4, z_call_eq, if_pos rfl, hn1', e_in0 (by omega) hx3, z_call_eq, if_pos rfl]
      · refine ⟨-1, M, M, ?_, ?_, hI⟩
        · rw [f_X11_linen, e_within, show f_X12_in (nI n) 1 24 M = some (1, M) from hin M, z_call_eq, if_neg (by decide), e_within, show f_X12_in (nI wks) 0 1000000 M = some (1, M) from e_in1 (n := 1000000) (by omega) hwk M, z_call_eq, if_neg (by decide), (ST.a hS (o := 0) (k := 0) (a := 1) (by decide)), z_rd_eq, c_has q2 q1 (by omega), if_neg hs, z_call_eq, if_pos rfl]
        · have h43 : f_X12_linen_43 54 (nI n) (nI wks) x M = some (-1, M) := by
            rw [f_X12_linen_43, q3, if_neg (fun h => hs ((nI_leI (by omega) (by omega)).mp h))]
          rw [f_X12_linen, show f_X12_in (nI n) 1 24 M = some (1, M) from hin M, z_call_eq, if_neg (by decide), show f_X12_in (nI wks) 0 1000000 M = some (1, M) from e_in1 (n := 1000000) (by omega) hwk M, z_call_eq, if_neg (by decide)]
          have : ∀ y lo hi : Int32, f_X12_in y lo hi M = some (0, M) ∨ f_X12_in y lo hi M = some (1, M) := by
            intro y lo hi
            rw [f_X12_in]
            by_cases h1 : y < lo
            · rw [if_pos h1]; exact Or.inl rfl
            · rw [if_neg h1]
              by_cases h2 : hi < y
              · rw [if_pos h2]; exact Or.inl rfl
              · rw [if_neg h2]; exact Or.inr rfl
          rcases this x 100 101 with h | h
          · rw [h, z_call_eq, if_pos rfl]
            rcases this x 0 (nI n - 1) with h' | h'
            · rw [h', z_call_eq, if_pos rfl]
            · rw [h', z_call_eq, if_neg (by decide), h43]
          · rw [h, z_call_eq, if_neg (by decide), h43]
    · refine ⟨-1, M, M, ?_, ?_, hI⟩
      · rw [f_X11_linen, e_within, show f_X12_in (nI n) 1 24 M = some (1, M) from hin M, z_call_eq, if_neg (by decide), e_within, show f_X12_in b 0 1000000 M = some (0, M) from e_in0 (n := 1000000) (by omega) hb M, z_call_eq, if_pos rfl]
      · rw [f_X12_linen, show f_X12_in (nI n) 1 24 M = some (1, M) from hin M, z_call_eq, if_neg (by decide), show f_X12_in b 0 1000000 M = some (0, M) from e_in0 (n := 1000000) (by omega) hb M, z_call_eq, if_pos rfl]
  · refine ⟨-1, M, M, ?_, ?_, hI⟩
    · rw [f_X11_linen, e_within, show f_X12_in a 1 24 M = some (0, M) from ha M, z_call_eq, if_pos rfl]
    · rw [f_X12_linen, show f_X12_in a 1 24 M = some (0, M) from ha M, z_call_eq, if_pos rfl]
