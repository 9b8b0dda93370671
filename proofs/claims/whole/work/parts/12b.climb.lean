/-! ways and turns: rows of 24 reckoned from above -/
def TT (M : zM) (a : Nat) (T : Nat → Nat) : Prop := ∀ j, j < 24 → M.1 a j = nI (T j)
theorem TT.to {M M' : zM} {a : Nat} {T : Nat → Nat} (h : TT M a T) (e : M'.1 a = M.1 a) : TT M' a T := fun j hj => by rw [e]; exact h j hj
theorem TT.set {M : zM} {a p v : Nat} {T : Nat → Nat} (h : TT M a T) : TT (zu M.1 a p (nI v), M.2) a (va_up T p v) := by
  intro j hj
  show zu M.1 a p (nI v) a j = _
  by_cases e : j = p
  · rw [e, zu_same, va_eq]
  · rw [zu_ne _ _ _ e, va_ne e]; exact h j hj
theorem TT.cg {M : zM} {a : Nat} {T T' : Nat → Nat} (h : TT M a T) (e : ∀ j, j < 24 → T' j = T j) : TT M a T' := fun j hj => by rw [e j hj]; exact h j hj
def ups (p c : Nat) : Nat := p / 4 * 4 + 4 + c
def lo (p : Nat) : Nat := p % 4 - 1
def hi (p : Nat) : Nat := min 3 (p % 4 + 1)
theorem lohi (p : Nat) : lo p ≤ hi p ∧ hi p ≤ 3 := by unfold lo hi; omega
def inr (p c : Nat) : Bool := decide (lo p ≤ c) && decide (c ≤ hi p)
theorem inr_t {p c : Nat} (h1 : lo p ≤ c) (h2 : c ≤ hi p) : inr p c = true := by simp [inr, h1, h2]
theorem inr_f {p c : Nat} (h : c < lo p ∨ hi p < c) : inr p c = false := by
  unfold inr
  rcases h with h | h
  · simp [show ¬ lo p ≤ c by omega]
  · simp [show ¬ c ≤ hi p by omega]
def sc (T : Nat → Nat) (p : Nat) : Nat → Nat
  | 0 => 0
  | c + 1 => sc T p c + if inr p c then T (ups p c) else 0
theorem sc_s {T : Nat → Nat} {p c : Nat} : sc T p (c + 1) = sc T p c + if inr p c then T (ups p c) else 0 := rfl
theorem sc_lo {T : Nat → Nat} {p : Nat} : ∀ c, c ≤ lo p → sc T p c = 0 := by
  intro c
  induction c with
  | zero => intro _; rfl
  | succ c ih => intro h; rw [sc_s, ih (by omega), inr_f (Or.inl (by omega))]; rfl
theorem sc_hi {T : Nat → Nat} {p c : Nat} (h : hi p < c) : ∀ m, sc T p (c + m) = sc T p c := by
  intro m
  induction m with
  | zero => rfl
  | succ m ih => rw [← Nat.add_assoc, sc_s, ih, inr_f (Or.inr (by omega))]; rfl
theorem sc_4 {T : Nat → Nat} {p c : Nat} (h : hi p < c) (h4 : c ≤ 4) : sc T p c = sc T p 4 := by
  have := sc_hi (T := T) h (4 - c)
  rw [show c + (4 - c) = 4 by omega] at this
  exact this.symm
theorem c_low {p : Nat} (hp : p < 20) (M : zM) : f_X2_lowestAbove (nI p) M = some (nI (ups p (lo p)), M) := by
  rw [f_X2_lowestAbove, f_X11_floorOf, z_call_eq, f_X11_columnOf, z_call_eq, rem4 (by omega), f_X11_columnBy, show (0 : Int32) = nI 0 from rfl, show nI 0 = (0 : Int32) from rfl, show z_max 0 (z_min 3 ((nI (p % 4) + 0) - 1)) = nI (min 3 (p % 4 + 0 - 1)) from col_by (p % 4) (by omega) 0 (by omega), z_call_eq, div4 (by omega), nI_1, show z_min (nI (p / 4 + 1)) 5 = nI (p / 4 + 1) from (nI_min (b := 5) (by omega) (by omega)).trans (by rw [Nat.min_eq_left (by omega)]), show (4 : Int32) = nI 4 from rfl, nI_mul, nI_add]
  unfold ups lo
  congr 3
  omega
theorem c_high {p : Nat} (hp : p < 20) (M : zM) : f_X2_highestAbove (nI p) M = some (nI (ups p (hi p)), M) := by
  rw [f_X2_highestAbove, f_X11_floorOf, z_call_eq, f_X11_columnOf, z_call_eq, rem4 (by omega), f_X11_columnBy, show z_max 0 (z_min 3 ((nI (p % 4) + 2) - 1)) = nI (min 3 (p % 4 + 2 - 1)) from col_by (p % 4) (by omega) 2 (by omega), z_call_eq, div4 (by omega), nI_1, show z_min (nI (p / 4 + 1)) 5 = nI (p / 4 + 1) from (nI_min (b := 5) (by omega) (by omega)).trans (by rw [Nat.min_eq_left (by omega)]), show (4 : Int32) = nI 4 from rfl, nI_mul, nI_add]
  unfold ups hi
  congr 3
  omega
theorem c_fillr_lp {a v : Nat} (la : z_ln SH a = 24) : ∀ m n i (M : zM), i + m = 24 → m < n → (∀ j, j < i → M.1 a j = nI v) → ∃ M', f_J7_fill_53178_5 a (nI v) n (nI i) (nI 24) M = some ((), M') ∧ Fr [a] M M' ∧ TT M' a (fun _ => v) := by
  intro m
  induction m with
  | zero =>
    intro n i M hi hn h
    obtain ⟨n, rfl⟩ : ∃ m, n = m + 1 := ⟨n - 1, by omega⟩
    obtain rfl : i = 24 := by omega
    exact ⟨M, by rw [f_J7_fill_53178_5, if_pos (by decide)], Fr.rf, h⟩
  | succ m ih =>
    intro n i M hi hn h
    obtain ⟨n, rfl⟩ : ∃ m, n = m + 1 := ⟨n - 1, by omega⟩
    obtain ⟨M', h1, h2, h3⟩ := ih n (i + 1) (zu M.1 a i (nI v), M.2) (by omega) (by omega) (fun j hj => by
      show zu M.1 a i (nI v) a j = _
      by_cases e : j = i
      · rw [e, zu_same]
      · rw [zu_ne _ _ _ e]; exact h j (by omega))
    refine ⟨M', ?_, (Fr.zu (M := M) (c := a) (by simp)).tr h2, h3⟩
    rw [f_J7_fill_53178_5, if_neg (nI_ge (by omega) (by omega)), if_pos (by rw [z_ixN (by omega), la]; omega), zl_eq, nI_clamp (by omega), zl_eq, nI_1]
    exact h1
theorem c_fillr {a v : Nat} (la : z_ln SH a = 24) (M : zM) : ∃ M', f_J7_fill_53178 a (nI v) M = some ((), M') ∧ Fr [a] M M' ∧ TT M' a (fun _ => v) := by
  obtain ⟨M', h1, h2, h3⟩ := c_fillr_lp (v := v) la 24 zF 0 M (by omega) (by decide) (fun j hj => by omega)
  refine ⟨M', ?_, h2, h3⟩
  rw [f_J7_fill_53178, la, zl_eq]
  exact h1
theorem ln41 : z_ln SH 41 = 24 := by decide
theorem ln42 : z_ln SH 42 = 24 := by decide
theorem ln72 : z_ln SH 72 = 24 := by decide
theorem ln73 : z_ln SH 73 = 24 := by decide
def wt (to : Nat) : Nat → Nat → Nat
  | 0 => fun p => if p = to then 1 else 0
  | k + 1 => va_up (wt to k) (to / 4 * 4 - 1 - k) (wt to k (to / 4 * 4 - 1 - k) + sc (wt to k) (to / 4 * 4 - 1 - k) 4)
theorem c_rows_in {T : Nat → Nat} {p : Nat} {x1 : Int32} {K : Int32 → zM → Option (Int32 × zM)} (hp : p < 20) : ∀ m n c (M : zM), c + m = hi p + 1 → m < n → lo p ≤ c → ST M → TT M 41 (va_up T p (T p + sc T p c)) → ∃ M', f_X2_numberOfRows_34 40 x1 K n (nI p) (nI (ups p c)) M = K (nI p - 1) M' ∧ Fr [41] M M' ∧ TT M' 41 (va_up T p (T p + sc T p 4)) := by
  have hlh := lohi p
  intro m
  induction m with
  | zero =>
    intro n c M hc hn hl hS hT
    obtain ⟨n, rfl⟩ : ∃ m, n = m + 1 := ⟨n - 1, by omega⟩
    refine ⟨M, ?_, Fr.rf, ?_⟩
    · rw [f_X2_numberOfRows_34, c_high hp, z_call_eq, if_pos ((nI_ltI (by unfold ups; omega) (by unfold ups; omega)).mpr (by unfold ups; omega)), zl_eq, Int32.sub_eq_add_neg]
    · rw [← sc_4 (c := c) (by omega) (by omega)]; exact hT
  | succ m ih =>
    intro n c M hc hn hl hS hT
    obtain ⟨n, rfl⟩ : ∃ m, n = m + 1 := ⟨n - 1, by omega⟩
    have hu : ups p c < 24 ∧ p < ups p c := by unfold ups; omega
    have e1 : M.1 41 p = nI (T p + sc T p c) := by rw [hT p (by omega), va_eq]
    have e2 : M.1 41 (ups p c) = nI (T (ups p c)) := by rw [hT _ hu.1, va_ne (by omega)]
    obtain ⟨M', h1, h2, h3⟩ := ih n (c + 1) (zu M.1 41 p (nI (T p + sc T p c + T (ups p c))), M.2) (by omega) (by omega) (by omega) (hS.to rfl) ((TT.set hT).cg (fun j _ => by rw [va_va, sc_s, inr_t hl (by omega), if_pos rfl, ← Nat.add_assoc]))
    refine ⟨M', ?_, (Fr.zu (M := M) (c := 41) (by simp)).tr h2, h3⟩
    rw [f_X2_numberOfRows_34, c_high hp, z_call_eq, if_neg (nI_nlt (by unfold ups; omega) (by unfold ups; omega)), (ST.a hS (o := 40) (k := 0) (a := 41) (by decide)), z_rd_eq, ln41, if_pos (by rw [z_ixN (by omega)]; omega), z_rd_eq, ln41, if_pos (by rw [z_ixN (by omega)]; omega), if_pos (by rw [z_ixN (by omega)]; omega), zl_eq, nI_clamp (by omega), nI_clamp (by omega), e1, e2, nI_add, zl_eq, nI_1]
    exact h1
theorem c_rows_out {to r : Nat} (hto : to < 24) (hr : r < 24) : ∀ m n (M : zM), m ≤ to / 4 * 4 → m < n → ST M → TT M 41 (wt to (to / 4 * 4 - m)) → ∃ M', f_X2_numberOfRows_24 40 (nI r) n (nI m - 1) M = some (nI (wt to (to / 4 * 4) r), M') ∧ Fr [41] M M' := by
  intro m
  induction m with
  | zero =>
    intro n M hm hn hS hT
    obtain ⟨n, rfl⟩ : ∃ m, n = m + 1 := ⟨n - 1, by omega⟩
    refine ⟨M, ?_, Fr.rf⟩
    rw [f_X2_numberOfRows_24, if_pos (by decide), (ST.a hS (o := 40) (k := 0) (a := 41) (by decide)), z_rd_eq, ln41, if_pos (by rw [z_ixN (by omega)]; omega), nI_clamp (by omega), hT r hr, Nat.sub_zero]
  | succ m ih =>
    intro n M hm hn hS hT
    obtain ⟨n, rfl⟩ : ∃ m, n = m + 1 := ⟨n - 1, by omega⟩
    have hlh := lohi m
    obtain ⟨M1, h1, h2, h3⟩ := c_rows_in (T := wt to (to / 4 * 4 - (m + 1))) (p := m) (x1 := nI r) (K := f_X2_numberOfRows_24 40 (nI r) n) (by omega) (hi m + 1 - lo m) zF (lo m) M (by omega) (by unfold zF; omega) (Nat.le_refl _) hS (hT.cg (fun j _ => by
      rw [sc_lo _ (Nat.le_refl _)]
      exact congrFun (va_id (Nat.add_zero _).symm) j))
    obtain ⟨M2, g1, g2⟩ := ih n M1 (by omega) (by omega) (h2.st hS) (h3.cg (fun j _ => by
      rw [show to / 4 * 4 - m = (to / 4 * 4 - (m + 1)) + 1 by omega]
      show va_up (wt to (to / 4 * 4 - (m + 1))) (to / 4 * 4 - 1 - (to / 4 * 4 - (m + 1))) _ j = _
      rw [show to / 4 * 4 - 1 - (to / 4 * 4 - (m + 1)) = m by omega]))
    refine ⟨M2, ?_, h2.tr g2⟩
    rw [f_X2_numberOfRows_24, show nI (m + 1) - 1 = nI m from nI_sub (b := 1) (by omega), if_neg (nI_pos (by omega)), c_low (by omega), z_call_eq, h1]
    exact g1
theorem c_rows {M : zM} {to r : Nat} (hS : ST M) (hto : to < 24) (hr : r < 24) : ∃ M', f_X2_numberOfRows 40 (nI r) (nI to) M = some (nI (wt to (to / 4 * 4) r), M') ∧ Fr [41] M M' := by
  obtain ⟨M1, h1, h2, h3⟩ := c_fillr (a := 41) (v := 0) ln41 M
  have s1 := h2.st hS
  have f2 : Fr [41] M1 (zu M1.1 41 to (nI 1), M1.2) := Fr.zu (by simp)
  obtain ⟨M2, g1, g2⟩ := c_rows_out hto hr (to / 4 * 4) zF (zu M1.1 41 to (nI 1), M1.2) (Nat.le_refl _) (by unfold zF; omega) (f2.st s1) ((TT.set h3).cg (fun j _ => by
    rw [Nat.sub_self]
    show (if j = to then 1 else 0) = va_up (fun _ => 0) to 1 j
    by_cases e : j = to
    · rw [if_pos e, e, va_eq]
    · rw [if_neg e, va_ne e]))
  refine ⟨M2, ?_, (h2.tr f2).tr g2⟩
  rw [f_X2_numberOfRows, (ST.a hS (o := 40) (k := 0) (a := 41) (by decide)), z_rd_eq, show f_J7_fill_53178 41 0 M = some ((), M1) from h1, z_call_eq, (ST.a s1 (o := 40) (k := 0) (a := 41) (by decide)), z_rd_eq, ln41, if_pos (by rw [z_ixN (by omega)]; omega), zl_eq, nI_clamp (by omega), f_X11_floorOf, z_call_eq, div4 (by omega), show (4 : Int32) = nI 4 from rfl, nI_mul, zl_eq]
  exact g1
-- the reference's costs
def cst (N : Nat → Nat) (p c : Nat) : Nat := if min 3 (p % 4 + N (72 + p) - 1) = c then 0 else if inr p c then 1 else 1000000
theorem m_leads {c s k : Nat} (hc : c < 4) (hs : s < 3) (hk : k < 4) (M : zM) : f_X12_leads (nI c) (nI s) (nI k) M = some (if min 3 (c + s - 1) = k then 1 else 0, M) := by
  rw [f_X12_leads, m_turned hc hs, z_call_eq]
  by_cases h : min 3 (c + s - 1) = k
  · rw [if_pos (by rw [h]), if_pos h]
  · rw [if_neg (fun q => h ((nI_eq (by omega) (by omega)).mp q)), if_neg h]
theorem m_cost {M : zM} {N : Nat → Nat} {p c : Nat} (hS : ST M) (hN : MN M 55 N) (hR : NR N) (hp : p < 24) (hc : c < 4) : f_X12_costOf 54 (nI p) (nI c) M = some (nI (cst N p c), M) := by
  have hl := hR.2.2.2.1 p hp
  rw [f_X12_costOf, (ST.a hS (o := 54) (k := 0) (a := 55) (by decide)), z_rd_eq, ln55, show (72 + nI p : Int32) = nI (72 + p) by simp only [lit, nI_add], if_pos (by rw [z_ixN (by omega)]; omega), nI_clamp (by omega), hN _ (by omega), rem4 (by omega), m_leads (by omega) (by omega) hc, z_call_eq]
  unfold cst
  by_cases h1 : min 3 (p % 4 + N (72 + p) - 1) = c
  · rw [if_pos h1, if_pos h1, if_neg (by decide)]
    rfl
  · rw [if_neg h1, if_neg h1, if_pos rfl, show f_X12_leads (nI (p % 4)) 0 (nI c) M = _ from m_leads (s := 0) (by omega) (by omega) hc M, z_call_eq]
    by_cases h2 : min 3 (p % 4 + 0 - 1) = c
    · rw [if_pos h2, if_neg (by decide), f_X12_costOf_54, f_X12_costOf_59, if_neg (by decide), inr_t (by unfold lo; omega) (by unfold hi; omega)]
      rfl
    · rw [if_neg h2, if_pos rfl, show f_X12_leads (nI (p % 4)) 1 (nI c) M = _ from m_leads (s := 1) (by omega) (by omega) hc M, z_call_eq]
      by_cases h3 : min 3 (p % 4 + 1 - 1) = c
      · rw [if_pos h3, if_neg (by decide), f_X12_costOf_54, f_X12_costOf_59, if_neg (by decide), inr_t (by unfold lo; omega) (by unfold hi; omega)]
        rfl
      · rw [if_neg h3, if_pos rfl, show f_X12_leads (nI (p % 4)) 2 (nI c) M = _ from m_leads (s := 2) (by omega) (by omega) hc M, z_call_eq]
        by_cases h4 : min 3 (p % 4 + 2 - 1) = c
        · rw [if_pos h4, if_neg (by decide), f_X12_costOf_54, f_X12_costOf_59, if_neg (by decide), inr_t (by unfold lo; omega) (by unfold hi; omega)]
          rfl
        · rw [if_neg h4, if_pos rfl, f_X12_costOf_59, if_pos rfl, inr_f (by unfold lo hi; omega)]
          rfl
theorem m_min {a b : Nat} (ha : a < 2 ^ 31) (hb : b < 2 ^ 31) (M : zM) : f_X12_min (nI a) (nI b) M = some (nI (min a b), M) := by
  unfold f_X12_min
  by_cases h : a < b
  · rw [Nat.min_eq_left (by omega), if_neg (nI_ge h hb)]
  · rw [Nat.min_eq_right (by omega), if_pos ((nI_leI hb ha).mpr (by omega))]
