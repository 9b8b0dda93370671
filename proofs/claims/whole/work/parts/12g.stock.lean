/-! stockings: sets of shut grilles, by their weights -/
def wg (q : Nat) : Nat := 2 ^ 24 + 2 ^ q
def vz (Z : Nat → Nat) : Nat := g_sum (fun q => Z q * wg q) 0 24
theorem g_sum_add {f g : Nat → Nat} : ∀ n, g_sum (fun q => f q + g q) 0 n = g_sum f 0 n + g_sum g 0 n := by
  intro n
  induction n with
  | zero => rfl
  | succ n ih => simp only [g_sum]; rw [ih]; omega
theorem vz_cg {Z Y : Nat → Nat} (h : ∀ q, Z q = Y q) : vz Z = vz Y := by rw [show Z = Y from funext h]
theorem zz_a {I : Nat → Nat → Int32} {a b p : Nat} {x y : Int32} : zu (zu I 41 a x) 42 b y 41 p = va_up (I 41) a x p := by rw [zu_cell _ _ _ (by decide), zu_self]
theorem zz_b {I : Nat → Nat → Int32} {a b p : Nat} {x y : Int32} : zu (zu I 41 a x) 42 b y 42 p = va_up (I 42) b y p := by rw [zu_self, zu_cell _ _ _ (by decide)]
theorem vz_add {Z Y : Nat → Nat} : vz (fun q => Z q + Y q) = vz Z + vz Y := by
  unfold vz
  rw [← g_sum_add]
  congr 1
  funext q
  rw [Nat.add_mul]
theorem vz_0 {Z : Nat → Nat} (h : ∀ q, q < 24 → Z q = 0) : vz Z = 0 := by
  unfold vz
  exact g_sum_0.mpr (fun k hk => by rw [Nat.zero_add, h k hk, Nat.zero_mul])
def dl (k q : Nat) : Nat := if q = k then 1 else 0
theorem vz_dl {k : Nat} (hk : k < 24) : vz (dl k) = wg k := by
  have : ∀ n, g_sum (fun q => dl k q * wg q) 0 n = if k < n then wg k else 0 := by
    intro n
    induction n with
    | zero => rfl
    | succ n ih =>
      simp only [g_sum]
      rw [ih, Nat.zero_add]
      unfold dl
      by_cases e : n = k
      · rw [if_pos e, if_neg (by omega), if_pos (by omega), e]; omega
      · rw [if_neg e]
        by_cases h : k < n
        · rw [if_pos h, if_pos (by omega)]; omega
        · rw [if_neg h, if_neg (by omega)]; omega
  unfold vz
  rw [this 24, if_pos hk]
theorem vz_split (Z : Nat → Nat) : vz Z = 2 ^ 24 * g_sum Z 0 24 + g_bits Z 0 24 := by
  have : ∀ n, g_sum (fun q => Z q * wg q) 0 n = 2 ^ 24 * g_sum Z 0 n + g_bits Z 0 n := by
    intro n
    induction n with
    | zero => rfl
    | succ n ih =>
      simp only [g_sum, g_bits]
      rw [ih, Nat.zero_add, Nat.mul_add]
      unfold wg
      rw [Nat.mul_add, Nat.mul_comm (Z n) (2 ^ 24)]
      omega
  exact this 24
theorem vz_le {Z : Nat → Nat} (h : ∀ q, q < 24 → Z q ≤ 1) : vz Z ≤ 24 * 2 ^ 25 := by
  refine g_sum_le (fun k hk => ?_)
  show Z (0 + k) * wg (0 + k) ≤ 2 ^ 25
  rw [Nat.zero_add]
  have h1 := h k hk
  have h2 : wg k ≤ 2 ^ 25 := by
    unfold wg
    have : 2 ^ k ≤ 2 ^ 24 := Nat.pow_le_pow_right (by omega) (by omega)
    omega
  calc Z k * wg k ≤ 1 * wg k := Nat.mul_le_mul_right _ h1
    _ ≤ 2 ^ 25 := by omega
def acz (N : Nat → Nat) (Z : Nat → Nat → Nat) (p q : Nat) : Nat → Nat
  | 0 => 0
  | k + 1 => acz N Z p q k + if abv N k = p then Z k q else 0
def av (N : Nat → Nat) (Z : Nat → Nat → Nat) (p k : Nat) : Nat := vz (fun q => acz N Z p q k)
theorem av_s {N : Nat → Nat} {Z : Nat → Nat → Nat} {p k : Nat} : av N Z p (k + 1) = av N Z p k + if abv N k = p then vz (Z k) else 0 := by
  unfold av
  by_cases h : abv N k = p
  · rw [if_pos h, ← vz_add]
    refine vz_cg (fun q => ?_)
    show acz N Z p q k + (if abv N k = p then Z k q else 0) = _
    rw [if_pos h]
  · rw [if_neg h]
    refine Eq.trans (vz_cg (Y := fun q => acz N Z p q k) (fun q => ?_)) (Nat.add_zero _).symm
    show acz N Z p q k + (if abv N k = p then Z k q else 0) = _
    rw [if_neg h]
    exact Nat.add_zero _
theorem acz_cg {N : Nat → Nat} {Z Z' : Nat → Nat → Nat} {p q : Nat} : ∀ k, (∀ c, c < k → Z' c = Z c) → acz N Z' p q k = acz N Z p q k := by
  intro k
  induction k with
  | zero => intro _; rfl
  | succ k ih =>
    intro h
    show acz N Z' p q k + _ = acz N Z p q k + _
    rw [ih (fun c hc => h c (by omega)), h k (by omega)]
theorem av_cg {N : Nat → Nat} {Z Z' : Nat → Nat → Nat} {p k : Nat} (h : ∀ c, c < k → Z' c = Z c) : av N Z' p k = av N Z p k := by
  exact vz_cg (fun q => acz_cg k h)
theorem av_0 {N : Nat → Nat} {Z : Nat → Nat → Nat} {p : Nat} : av N Z p 0 = 0 := vz_0 (fun _ _ => rfl)
theorem av_same {N : Nat → Nat} {Z : Nat → Nat → Nat} {p k : Nat} : ∀ m, (∀ c, k ≤ c → c < k + m → abv N c ≠ p) → av N Z p (k + m) = av N Z p k := by
  intro m
  induction m with
  | zero => intro _; rfl
  | succ m ih =>
    intro h
    rw [← Nat.add_assoc, av_s, if_neg (h (k + m) (by omega) (by omega)), Nat.add_zero]
    exact ih (fun c h1 h2 => h c h1 (by omega))
/-- the sets, stage by stage: shut if all is open above, and if nothing is asked there -/
def stp (N : Nat → Nat) (R k : Nat) (t : (Nat → Nat → Nat) × (Nat → Nat → Nat)) : (Nat → Nat → Nat) × (Nat → Nat → Nat) :=
  (va_up t.1 k (if tk N k && R.testBit k then (fun q => acz N t.1 k q k + dl k q) else (fun q => acz N t.1 k q k)),
   va_up t.2 k (if tk N k then (if av N t.1 k k < av N t.2 k k + wg k then (fun q => acz N t.1 k q k) else (fun q => acz N t.2 k q k + dl k q)) else (fun q => acz N t.2 k q k)))
def stt (N : Nat → Nat) (R : Nat) : Nat → (Nat → Nat → Nat) × (Nat → Nat → Nat)
  | 0 => (fun _ _ => 0, fun _ _ => 0)
  | k + 1 => stp N R k (stt N R k)
theorem stt_1 {N : Nat → Nat} {R k c : Nat} (h : c ≠ k) : (stt N R (k + 1)).1 c = (stt N R k).1 c := va_ne h
theorem stt_2 {N : Nat → Nat} {R k c : Nat} (h : c ≠ k) : (stt N R (k + 1)).2 c = (stt N R k).2 c := va_ne h
theorem stt_e1 {N : Nat → Nat} {R k : Nat} : (stt N R (k + 1)).1 k = if tk N k && R.testBit k then (fun q => acz N (stt N R k).1 k q k + dl k q) else (fun q => acz N (stt N R k).1 k q k) := va_eq
theorem stt_e2 {N : Nat → Nat} {R k : Nat} : (stt N R (k + 1)).2 k = if tk N k then (if av N (stt N R k).1 k k < av N (stt N R k).2 k k + wg k then (fun q => acz N (stt N R k).1 k q k) else (fun q => acz N (stt N R k).2 k q k + dl k q)) else (fun q => acz N (stt N R k).2 k q k) := va_eq
theorem stt_k1 {N : Nat → Nat} {R k : Nat} (hk : k < 24) : vz ((stt N R (k + 1)).1 k) = if tk N k && R.testBit k then av N (stt N R k).1 k k + wg k else av N (stt N R k).1 k k := by
  rw [stt_e1]
  by_cases h : (tk N k && R.testBit k) = true
  · rw [if_pos h, if_pos h, vz_add, vz_dl hk]; rfl
  · rw [if_neg h, if_neg h]; rfl
theorem stt_k2 {N : Nat → Nat} {R k : Nat} (hk : k < 24) : vz ((stt N R (k + 1)).2 k) = if tk N k then min (av N (stt N R k).2 k k + wg k) (av N (stt N R k).1 k k) else av N (stt N R k).2 k k := by
  rw [stt_e2]
  by_cases h : tk N k = true
  · rw [if_pos h, if_pos h]
    by_cases h2 : av N (stt N R k).1 k k < av N (stt N R k).2 k k + wg k
    · rw [if_pos h2, Nat.min_eq_right (by omega)]; rfl
    · rw [if_neg h2, vz_add, vz_dl hk, Nat.min_eq_left (by omega)]; rfl
  · rw [if_neg h, if_neg h]; rfl
def pst (N : Nat → Nat) : Nat → Nat → Nat
  | 0, q => q
  | k + 1, q => if pst N k q = k then abv N k else pst N k q
theorem pst_q {N : Nat → Nat} : ∀ k q, k ≤ q → pst N k q = q := by
  intro k
  induction k with
  | zero => intro q _; rfl
  | succ k ih =>
    intro q h
    show (if pst N k q = k then abv N k else pst N k q) = q
    rw [ih q (by omega), if_neg (by omega)]
def BD (N : Nat → Nat) (k : Nat) (Z : Nat → Nat → Nat) : Prop := ∀ c, c < k → ∀ q, Z c q ≤ if q ≤ c ∧ pst N c q = c then 1 else 0
theorem acz_b {N : Nat → Nat} {Z : Nat → Nat → Nat} {k : Nat} (hZ : BD N k Z) : ∀ j, j ≤ k → ∀ p q, j ≤ p → acz N Z p q j ≤ if q < j ∧ pst N j q = p then 1 else 0 := by
  intro j
  induction j with
  | zero => intro _ p q _; exact Nat.zero_le _
  | succ j ih =>
    intro hj p q hp
    have h1 := ih (by omega) p q (by omega)
    have h2 := hZ j (by omega) q
    show acz N Z p q j + (if abv N j = p then Z j q else 0) ≤ _
    have hps : pst N (j + 1) q = if pst N j q = j then abv N j else pst N j q := rfl
    by_cases e : pst N j q = j
    · rw [if_pos e] at hps
      rw [if_neg (by omega)] at h1
      rw [hps]
      by_cases e2 : abv N j = p
      · rw [if_pos e2]
        by_cases e3 : q ≤ j
        · rw [if_pos ⟨by omega, e2⟩]
          rw [if_pos ⟨e3, e⟩] at h2
          omega
        · rw [if_neg (by omega)] at h2
          omega
      · rw [if_neg e2]; omega
    · rw [if_neg e] at hps
      rw [if_neg (by omega)] at h2
      rw [hps]
      have h3 : (if abv N j = p then Z j q else 0) = 0 := by
        by_cases e2 : abv N j = p
        · rw [if_pos e2]; omega
        · rw [if_neg e2]
      rw [h3]
      by_cases e4 : q < j ∧ pst N j q = p
      · rw [if_pos e4] at h1
        rw [if_pos ⟨by omega, e4.2⟩]; omega
      · rw [if_neg e4] at h1; omega
theorem stt_b {N : Nat → Nat} {R : Nat} : ∀ k, BD N k (stt N R k).1 ∧ BD N k (stt N R k).2 := by
  intro k
  induction k with
  | zero => exact ⟨fun c hc => by omega, fun c hc => by omega⟩
  | succ k ih =>
    obtain ⟨i1, i2⟩ := ih
    have a1 : ∀ q, acz N (stt N R k).1 k q k ≤ if q < k ∧ pst N k q = k then 1 else 0 := fun q => acz_b i1 k (Nat.le_refl _) k q (Nat.le_refl _)
    have a2 : ∀ q, acz N (stt N R k).2 k q k ≤ if q < k ∧ pst N k q = k then 1 else 0 := fun q => acz_b i2 k (Nat.le_refl _) k q (Nat.le_refl _)
    have w0 : ∀ x q : Nat, (x ≤ if q < k ∧ pst N k q = k then 1 else 0) → x ≤ if q ≤ k ∧ pst N k q = k then 1 else 0 := by
      intro x q h
      by_cases e : q < k ∧ pst N k q = k
      · rw [if_pos e] at h
        rw [if_pos ⟨by omega, e.2⟩]; exact h
      · rw [if_neg e] at h; omega
    have w1 : ∀ x q : Nat, (x ≤ if q < k ∧ pst N k q = k then 1 else 0) → x + dl k q ≤ if q ≤ k ∧ pst N k q = k then 1 else 0 := by
      intro x q h
      unfold dl
      by_cases e : q = k
      · rw [if_pos e, if_pos ⟨by omega, by rw [e]; exact pst_q k k (Nat.le_refl _)⟩]
        rw [if_neg (by omega)] at h
        omega
      · rw [if_neg e, Nat.add_zero]; exact w0 x q h
    refine ⟨fun c hc q => ?_, fun c hc q => ?_⟩
    · by_cases e : c = k
      · rw [e, stt_e1]
        by_cases h : (tk N k && R.testBit k) = true
        · rw [if_pos h]; exact w1 _ q (a1 q)
        · rw [if_neg h]; exact w0 _ q (a1 q)
      · rw [stt_1 e]; exact i1 c (by omega) q
    · by_cases e : c = k
      · rw [e, stt_e2]
        by_cases h : tk N k = true
        · rw [if_pos h]
          by_cases h2 : av N (stt N R k).1 k k < av N (stt N R k).2 k k + wg k
          · rw [if_pos h2]; exact w0 _ q (a1 q)
          · rw [if_neg h2]; exact w1 _ q (a2 q)
        · rw [if_neg h]; exact w0 _ q (a2 q)
      · rw [stt_2 e]; exact i2 c (by omega) q
theorem acz_1 {N : Nat → Nat} {R k p q : Nat} (hp : k ≤ p) : acz N (stt N R k).1 p q k ≤ 1 ∧ acz N (stt N R k).2 p q k ≤ 1 := by
  obtain ⟨b1, b2⟩ := stt_b (N := N) (R := R) k
  have h1 := acz_b b1 k (Nat.le_refl _) p q hp
  have h2 := acz_b b2 k (Nat.le_refl _) p q hp
  by_cases e : q < k ∧ pst N k q = p
  · rw [if_pos e] at h1 h2; exact ⟨h1, h2⟩
  · rw [if_neg e] at h1 h2; omega
theorem av_le {N : Nat → Nat} {R k p : Nat} (hp : k ≤ p) : av N (stt N R k).1 p k ≤ 24 * 2 ^ 25 ∧ av N (stt N R k).2 p k ≤ 24 * 2 ^ 25 := ⟨vz_le (fun _ _ => (acz_1 hp).1), vz_le (fun _ _ => (acz_1 hp).2)⟩
-- the class
theorem wg_or : ∀ k, k < 24 → ((16777216 : Int32) ||| ((1 : Int32) <<< (nI k &&& 31))) = nI (wg k) := by decide
theorem r_bit {R k : Nat} (hR : R < 2 ^ 24) (hk : k < 24) : ((nI R >>> (nI k &&& 31)) &&& 1) = if R.testBit k then (1 : Int32) else 0 := by
  rw [nI_shr (by omega) (by omega), show (1 : Int32) = nI 1 from rfl, nI_and, bit_of]
  cases R.testBit k <;> rfl
theorem wg_lt {k : Nat} (hk : k < 24) : wg k ≤ 2 ^ 25 := by
  unfold wg
  have : 2 ^ k ≤ 2 ^ 24 := Nat.pow_le_pow_right (by omega) (by omega)
  omega
theorem abv_gt {N : Nat → Nat} {k : Nat} (hk : k < 24) : k < abv N k := by
  by_cases h : k < 20
  · have := (abv_lt (N := N) h).2
    omega
  · rw [abv_hi (by omega)]; exact hk
theorem c_stock_lp {N : Nat → Nat} {R : Nat} (hR : NR N) (hRR : R < 2 ^ 24) : ∀ m n k (M : zM), k + m = 24 → m < n → ST M → CS M 3 N → (∀ p, k ≤ p → p < 24 → M.1 41 p = nI (av N (stt N R k).2 p k) ∧ M.1 42 p = nI (av N (stt N R k).1 p k)) → ∃ M', f_X2_fewestShut_21 40 3 (nI R) n (nI (av N (stt N R k).2 24 k)) (nI k) M = some (nI (av N (stt N R 24).2 24 24) &&& 16777215, M') ∧ Fr [41, 42] M M' := by
  intro m
  induction m with
  | zero =>
    intro n k M hk hn hS hC h
    obtain ⟨n, rfl⟩ : ∃ m, n = m + 1 := ⟨n - 1, by omega⟩
    obtain rfl : k = 24 := by omega
    exact ⟨M, by rw [f_X2_fewestShut_21, if_pos (by decide)], Fr.rf⟩
  | succ m ih =>
    intro n k M hk hn hS hC h
    obtain ⟨n, rfl⟩ : ∃ m, n = m + 1 := ⟨n - 1, by omega⟩
    have hk24 : k < 24 := by omega
    obtain ⟨e1, e2⟩ := h k (Nat.le_refl _) hk24
    obtain ⟨b1, b2⟩ := av_le (N := N) (R := R) (Nat.le_refl k)
    have hw := wg_lt hk24
    have n1 := stt_k1 (N := N) (R := R) hk24
    have n2 := stt_k2 (N := N) (R := R) hk24
    -- best and all shut
    have hbest : f_X2_fewestShut_21 40 3 (nI R) (n + 1) (nI (av N (stt N R k).2 24 k)) (nI k) M = f_X2_fewestShut_80 40 3 (nI R) (f_X2_fewestShut_21 40 3 (nI R) n) (nI (av N (stt N R k).2 24 k)) (nI k) (if tk N k then 1 else 0) (nI (wg k)) (nI (vz ((stt N R (k + 1)).2 k))) M := by
      rw [f_X2_fewestShut_21, if_neg (show ¬ (24 : Int32) ≤ nI k from nI_ge (b := 24) hk24 (by omega)), c_takesPart hC hR hk24, z_call_eq, wg_or k hk24, zl_eq, n2]
      by_cases q : tk N k = true
      · rw [if_pos q, if_pos q, if_neg (by decide), (ST.a hS (o := 40) (k := 0) (a := 41) (by decide)), z_rd_eq, ln41, if_pos (by rw [z_ixN (by omega)]; omega), (ST.a hS (o := 40) (k := 1) (a := 42) (by decide)), z_rd_eq, ln42, if_pos (by rw [z_ixN (by omega)]; omega), nI_clamp (by omega), e1, e2, nI_add, nI_min (by omega) (by omega)]
      · rw [if_neg q, if_neg q, if_pos rfl, (ST.a hS (o := 40) (k := 0) (a := 41) (by decide)), z_rd_eq, ln41, if_pos (by rw [z_ixN (by omega)]; omega), nI_clamp (by omega), e1]
    have hshut : f_X2_fewestShut_80 40 3 (nI R) (f_X2_fewestShut_21 40 3 (nI R) n) (nI (av N (stt N R k).2 24 k)) (nI k) (if tk N k then 1 else 0) (nI (wg k)) (nI (vz ((stt N R (k + 1)).2 k))) M = f_X2_fewestShut_129 40 3 (nI R) (f_X2_fewestShut_21 40 3 (nI R) n) (nI (av N (stt N R k).2 24 k)) (nI k) (nI (vz ((stt N R (k + 1)).2 k))) (nI (vz ((stt N R (k + 1)).1 k))) M := by
      rw [f_X2_fewestShut_80, r_bit hRR hk24, n1]
      have z0 : f_X2_fewestShut_101 40 3 (nI R) (f_X2_fewestShut_21 40 3 (nI R) n) (nI (av N (stt N R k).2 24 k)) (nI k) (nI (wg k)) (nI (vz ((stt N R (k + 1)).2 k))) M = f_X2_fewestShut_129 40 3 (nI R) (f_X2_fewestShut_21 40 3 (nI R) n) (nI (av N (stt N R k).2 24 k)) (nI k) (nI (vz ((stt N R (k + 1)).2 k))) (nI (av N (stt N R k).1 k k)) M := by
        rw [f_X2_fewestShut_101, f_X2_fewestShut_102, if_pos rfl, (ST.a hS (o := 40) (k := 1) (a := 42) (by decide)), z_rd_eq, ln42, if_pos (by rw [z_ixN (by omega)]; omega), nI_clamp (by omega), e2]
      by_cases q : tk N k = true
      · rw [if_pos q, if_neg (by decide)]
        by_cases q2 : R.testBit k = true
        · rw [if_pos q2, if_pos rfl, q, q2, f_X2_fewestShut_102, if_neg (by decide), (ST.a hS (o := 40) (k := 1) (a := 42) (by decide)), z_rd_eq, ln42, if_pos (by rw [z_ixN (by omega)]; omega), nI_clamp (by omega), e2, nI_add]
          rfl
        · rw [if_neg q2, if_neg (by decide), z0, if_neg (by simp [q2])]
      · rw [if_neg q, if_pos rfl, z0, if_neg (by simp [q])]
    have hnew : ∀ p, k < p → av N (stt N R (k + 1)).2 p (k + 1) = av N (stt N R k).2 p k + (if abv N k = p then vz ((stt N R (k + 1)).2 k) else 0) ∧ av N (stt N R (k + 1)).1 p (k + 1) = av N (stt N R k).1 p k + (if abv N k = p then vz ((stt N R (k + 1)).1 k) else 0) := by
      intro p hp
      refine ⟨?_, ?_⟩
      · rw [av_s, av_cg (fun c hc => stt_2 (by omega))]
      · rw [av_s, av_cg (fun c hc => stt_1 (by omega))]
    have hup := abv_gt (N := N) hk24
    rw [hbest, hshut, f_X2_fewestShut_129, c_above hO3 hS hC hR hk24, z_call_eq]
    by_cases q : k < 20
    · have ha := (abv_lt (N := N) q).1
      have f1 : Fr [41, 42] M (zu M.1 41 (abv N k) (nI (av N (stt N R (k + 1)).2 (abv N k) (k + 1))), M.2) := Fr.zu (by simp)
      have f1b : Fr [41] M (zu M.1 41 (abv N k) (nI (av N (stt N R (k + 1)).2 (abv N k) (k + 1))), M.2) := Fr.zu (by simp)
      have f2 : Fr [41, 42] (zu M.1 41 (abv N k) (nI (av N (stt N R (k + 1)).2 (abv N k) (k + 1))), M.2) (zu (zu M.1 41 (abv N k) (nI (av N (stt N R (k + 1)).2 (abv N k) (k + 1)))) 42 (abv N k) (nI (av N (stt N R (k + 1)).1 (abv N k) (k + 1))), M.2) := Fr.zu (M := (zu M.1 41 (abv N k) (nI (av N (stt N R (k + 1)).2 (abv N k) (k + 1))), M.2)) (by simp)
      have f3 := f1.tr f2
      obtain ⟨h1, h2⟩ := h (abv N k) (by omega) ha
      obtain ⟨g1, g2⟩ := hnew (abv N k) hup
      rw [if_pos rfl] at g1 g2
      obtain ⟨M', i1, i2⟩ := ih n (k + 1) (zu (zu M.1 41 (abv N k) (nI (av N (stt N R (k + 1)).2 (abv N k) (k + 1)))) 42 (abv N k) (nI (av N (stt N R (k + 1)).1 (abv N k) (k + 1))), M.2) (by omega) (by omega) (f3.st hS) (hC.to (fun c q1 q2 => f3.1 c (by simp; omega))) (fun p hp1 hp2 => by
        obtain ⟨a1, a2⟩ := h p (by omega) hp2
        obtain ⟨c1, c2⟩ := hnew p (by omega)
        refine ⟨?_, ?_⟩
        · refine (zz_a (I := M.1) (a := abv N k) (b := abv N k) (p := p) (x := (nI (av N (stt N R (k + 1)).2 (abv N k) (k + 1)))) (y := (nI (av N (stt N R (k + 1)).1 (abv N k) (k + 1))))).trans ?_
          by_cases e : p = abv N k
          · rw [e, va_eq]
          · rw [va_ne e, a1, c1, if_neg (Ne.symm e), Nat.add_zero]
        · refine (zz_b (I := M.1) (a := abv N k) (b := abv N k) (p := p) (x := (nI (av N (stt N R (k + 1)).2 (abv N k) (k + 1)))) (y := (nI (av N (stt N R (k + 1)).1 (abv N k) (k + 1))))).trans ?_
          by_cases e : p = abv N k
          · rw [e, va_eq]
          · rw [va_ne e, a2, c2, if_neg (Ne.symm e), Nat.add_zero])
      refine ⟨M', ?_, f3.tr i2⟩
      have s1 := f1.st hS
      rw [e_room ha, z_call_eq, if_neg (by decide), (ST.a hS (o := 40) (k := 0) (a := 41) (by decide)), z_rd_eq, ln41, if_pos (by rw [z_ixN (by omega)]; omega), if_pos (by rw [z_ixN (by omega)]; omega), zl_eq, nI_clamp (by omega), h1, nI_add, ← g1, (ST.a s1 (o := 40) (k := 1) (a := 42) (by decide)), z_rd_eq, ln42, if_pos (by rw [z_ixN (by omega)]; omega), if_pos (by rw [z_ixN (by omega)]; omega), zl_eq, f1b.1 42 (by decide), h2, nI_add, ← g2, f_X2_fewestShut_179, zl_eq, nI_1]
      have hx3 : av N (stt N R k).2 24 k = av N (stt N R (k + 1)).2 24 (k + 1) := by
        rw [(hnew 24 (by omega)).1, if_neg (by omega), Nat.add_zero]
      rw [hx3]
      exact i1
    · have ha := abv_hi (N := N) (show 20 ≤ k by omega)
      obtain ⟨M', i1, i2⟩ := ih n (k + 1) M (by omega) (by omega) hS hC (fun p hp1 hp2 => by
        obtain ⟨a1, a2⟩ := h p (by omega) hp2
        obtain ⟨c1, c2⟩ := hnew p (by omega)
        rw [if_neg (by omega)] at c1 c2
        exact ⟨by rw [a1, c1]; exact congrArg nI (Nat.add_zero _).symm, by rw [a2, c2]; exact congrArg nI (Nat.add_zero _).symm⟩)
      refine ⟨M', ?_, i2⟩
      have hx3 : av N (stt N R k).2 24 k + vz ((stt N R (k + 1)).2 k) = av N (stt N R (k + 1)).2 24 (k + 1) := by
        rw [(hnew 24 (by omega)).1, if_pos ha]
      rw [ha, show f_X11_isRoom (nI 24) M = some (0, M) by rw [f_X11_isRoom, if_neg (by decide), if_pos (by decide)], z_call_eq, if_pos rfl, nI_add, zl_eq, hx3, f_X2_fewestShut_179, zl_eq, nI_1]
      exact i1
