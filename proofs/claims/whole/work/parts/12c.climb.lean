/-! the fewest turns -/
def phi (x : Nat) : Nat := if x < 1000 then x else 1000000
theorem phi_le (x : Nat) : phi x ≤ 1000000 := by unfold phi; by_cases h : x < 1000 <;> simp [h] <;> omega
theorem phi_min {a b d : Nat} (ha : a ≤ 1000) (hb : b = 1000 ∨ b ≤ 500) (hd : d ≤ 1) : phi (min a (b + d)) = min (phi a) (d + phi b) := by
  rcases hb with hb | hb
  · subst hb
    rw [Nat.min_eq_left (by omega), show phi 1000 = 1000000 from rfl, Nat.min_eq_left (by have := phi_le a; omega)]
  · have e1 : phi b = b := by unfold phi; rw [if_pos (by omega)]
    rw [e1]
    by_cases h : a ≤ b + d
    · rw [Nat.min_eq_left h]
      have e2 : phi a = a := by unfold phi; rw [if_pos (by omega)]
      rw [e2, Nat.min_eq_left (by omega)]
    · rw [Nat.min_eq_right (by omega)]
      have e2 : phi (b + d) = b + d := by unfold phi; rw [if_pos (by omega)]
      rw [e2]
      by_cases h2 : a < 1000
      · have e3 : phi a = a := by unfold phi; rw [if_pos h2]
        rw [e3]; omega
      · have e3 : phi a = 1000000 := by unfold phi; rw [if_neg h2]
        rw [e3]; omega
def trn (N : Nat → Nat) (p c : Nat) : Nat := if abv N p = ups p c then 0 else 1
theorem trn_le {N : Nat → Nat} {p c : Nat} : trn N p c ≤ 1 := by unfold trn; by_cases h : abv N p = ups p c <;> simp [h]
theorem cst_trn {N : Nat → Nat} {p c : Nat} (hp : p < 20) (h : inr p c = true) : cst N p c = trn N p c := by
  have ha : abv N p = (p / 4 + 1) * 4 + min 3 (p % 4 + N (72 + p) - 1) := by unfold abv; rw [if_neg (by omega)]
  unfold cst trn
  rw [ha, h]
  by_cases e : min 3 (p % 4 + N (72 + p) - 1) = c
  · rw [if_pos e, if_pos (by unfold ups; omega)]
  · rw [if_neg e, if_pos rfl, if_neg (by unfold ups; omega)]
theorem cst_out {N : Nat → Nat} (hR : NR N) {p c : Nat} (hp : p < 24) (h : inr p c = false) : cst N p c = 1000000 := by
  have hl := hR.2.2.2.1 p hp
  unfold cst
  rw [if_neg, h]
  · rfl
  · intro q
    rw [inr_t (by unfold lo; omega) (by unfold hi; omega)] at h
    exact absurd h (by decide)
def mc (N T : Nat → Nat) (p x : Nat) : Nat → Nat
  | 0 => x
  | c + 1 => if inr p c then min (mc N T p x c) (T (ups p c) + trn N p c) else mc N T p x c
theorem mc_s {N T : Nat → Nat} {p x c : Nat} : mc N T p x (c + 1) = if inr p c then min (mc N T p x c) (T (ups p c) + trn N p c) else mc N T p x c := rfl
theorem mc_lo {N T : Nat → Nat} {p x : Nat} : ∀ c, c ≤ lo p → mc N T p x c = x := by
  intro c
  induction c with
  | zero => intro _; rfl
  | succ c ih => intro h; rw [mc_s, ih (by omega), inr_f (Or.inl (by omega))]; rfl
theorem mc_4 {N T : Nat → Nat} {p x c : Nat} (h : hi p < c) (h4 : c ≤ 4) : mc N T p x c = mc N T p x 4 := by
  have : ∀ m, mc N T p x (c + m) = mc N T p x c := by
    intro m
    induction m with
    | zero => rfl
    | succ m ih => rw [← Nat.add_assoc, mc_s, ih, inr_f (Or.inr (by omega))]; rfl
  have h2 := this (4 - c)
  rw [show c + (4 - c) = 4 by omega] at h2
  exact h2.symm
theorem mc_b {N T : Nat → Nat} {p x k : Nat} (hx : x = 1000 ∨ x ≤ k) (hT : ∀ j, T j = 1000 ∨ T j ≤ k) (hk : k ≤ 400) : ∀ c, mc N T p x c = 1000 ∨ mc N T p x c ≤ k + 1 := by
  intro c
  induction c with
  | zero => show x = 1000 ∨ x ≤ k + 1; omega
  | succ c ih =>
    rw [mc_s]
    by_cases h : inr p c = true
    · rw [if_pos h]
      have h1 := hT (ups p c)
      have h2 := trn_le (N := N) (p := p) (c := c)
      omega
    · rw [if_neg h]; exact ih
theorem mc_cg {N T T' : Nat → Nat} {p x : Nat} (h : ∀ c, c < 4 → T' (ups p c) = T (ups p c)) : ∀ c, c ≤ 4 → mc N T' p x c = mc N T p x c := by
  intro c
  induction c with
  | zero => intro _; rfl
  | succ c ih => intro hc; rw [mc_s, mc_s, ih (by omega), h c (by omega)]
def tt (N : Nat → Nat) (to : Nat) : Nat → Nat → Nat
  | 0 => fun p => if p = to then 0 else 1000
  | k + 1 => va_up (tt N to k) (to / 4 * 4 - 1 - k) (mc N (tt N to k) (to / 4 * 4 - 1 - k) (tt N to k (to / 4 * 4 - 1 - k)) 4)
theorem tt_b {N : Nat → Nat} {to : Nat} : ∀ k, k ≤ 24 → ∀ j, tt N to k j = 1000 ∨ tt N to k j ≤ k := by
  intro k
  induction k with
  | zero =>
    intro _ j
    show (if j = to then 0 else 1000) = 1000 ∨ (if j = to then 0 else 1000) ≤ 0
    by_cases h : j = to <;> simp [h]
  | succ k ih =>
    intro hk j
    have hj := ih (by omega)
    show va_up _ _ _ j = 1000 ∨ va_up _ _ _ j ≤ k + 1
    by_cases e : j = to / 4 * 4 - 1 - k
    · rw [e, va_eq]
      exact mc_b (hj _) hj (by omega) 4
    · rw [va_ne e]
      have := hj j
      omega
/-- what stands at the end -/
theorem tt_un {N : Nat → Nat} {to : Nat} : ∀ k, k ≤ to / 4 * 4 → ∀ j, j < to / 4 * 4 - k → tt N to k j = 1000 := by
  intro k
  induction k with
  | zero =>
    intro _ j hj
    show (if j = to then 0 else 1000) = 1000
    rw [if_neg (by omega)]
  | succ k ih =>
    intro hk j hj
    show va_up _ _ _ j = 1000
    rw [va_ne (by omega)]
    exact ih (by omega) j (by omega)
theorem tt_fin {N : Nat → Nat} {to : Nat} : ∀ k, k ≤ to / 4 * 4 → ∀ p, to / 4 * 4 - k ≤ p → p < to / 4 * 4 → tt N to k p = mc N (tt N to k) p 1000 4 := by
  intro k
  induction k with
  | zero => intro _ p h1 h2; omega
  | succ k ih =>
    intro hk p h1 h2
    have cg : ∀ q x, to / 4 * 4 - 1 - k ≤ q → mc N (tt N to (k + 1)) q x 4 = mc N (tt N to k) q x 4 := by
      intro q x hq
      refine mc_cg (fun c hc => ?_) 4 (Nat.le_refl _)
      show va_up _ _ _ (ups q c) = _
      rw [va_ne (by unfold ups; omega)]
    by_cases e : p = to / 4 * 4 - 1 - k
    · rw [cg p _ (by omega)]
      show va_up _ _ _ p = _
      rw [e, va_eq, tt_un k (by omega) _ (by omega)]
    · rw [cg p _ (by omega)]
      show va_up _ _ _ p = _
      rw [va_ne e]
      exact ih (by omega) p (by omega) h2
theorem mc_at {N T : Nat → Nat} {p : Nat} : ∀ c, mc N T p 1000 c < 1000 → ∃ d, d < c ∧ inr p d = true ∧ T (ups p d) + trn N p d = mc N T p 1000 c := by
  intro c
  induction c with
  | zero => intro h; exact absurd h (by show ¬ 1000 < 1000; omega)
  | succ c ih =>
    intro h
    rw [mc_s] at h ⊢
    by_cases hi : inr p c = true
    · rw [if_pos hi] at h ⊢
      by_cases h2 : mc N T p 1000 c ≤ T (ups p c) + trn N p c
      · rw [Nat.min_eq_left h2] at h ⊢
        obtain ⟨d, d1, d2, d3⟩ := ih h
        exact ⟨d, by omega, d2, d3⟩
      · rw [Nat.min_eq_right (by omega)]
        exact ⟨c, by omega, hi, rfl⟩
    · rw [if_neg hi] at h ⊢
      obtain ⟨d, d1, d2, d3⟩ := ih h
      exact ⟨d, by omega, d2, d3⟩
theorem c_turnsBy {M : zM} {N T : Nat → Nat} {p c : Nat} (hS : ST M) (hC : CS M 3 N) (hR : NR N) (hT : TT M 41 T) (hp : p < 20) (hc : c < 4) : f_X2_turnsBy 40 3 (nI p) (nI (ups p c)) M = some (nI (T (ups p c) + trn N p c), M) := by
  have hu : ups p c < 24 := by unfold ups; omega
  rw [f_X2_turnsBy, (ST.a hS (o := 40) (k := 0) (a := 41) (by decide)), z_rd_eq, ln41, if_pos (by rw [z_ixN (by omega)]; omega), c_above hO3 hS hC hR (by omega), z_call_eq, nI_clamp (by omega), hT _ hu]
  have ha := abv_le (N := N) p
  unfold trn
  by_cases h : abv N p = ups p c
  · rw [if_pos (by rw [h]), if_pos h, Int32.add_zero]
    rfl
  · rw [if_neg (fun q => h ((nI_eq (by omega) (by omega)).mp q)), if_neg h, nI_1]
theorem c_tf_in {N T : Nat → Nat} {p : Nat} {K : Int32 → zM → Option (Unit × zM)} (hp : p < 20) (hR : NR N) (hx : ∀ j, T j ≤ 100000) : ∀ m n c (M : zM), c + m = hi p + 1 → m < n → lo p ≤ c → ST M → CS M 3 N → TT M 41 (va_up T p (mc N T p (T p) c)) → ∃ M', f_X2_fillFewestTurns_36 40 3 K n (nI p) (nI (ups p c)) M = K (nI p - 1) M' ∧ Fr [41] M M' ∧ TT M' 41 (va_up T p (mc N T p (T p) 4)) := by
  have hlh := lohi p
  have hmc : ∀ c, mc N T p (T p) c ≤ 100000 := by
    intro c
    induction c with
    | zero => exact hx p
    | succ c ih =>
      rw [mc_s]
      by_cases h : inr p c = true
      · rw [if_pos h]; omega
      · rw [if_neg h]; exact ih
  intro m
  induction m with
  | zero =>
    intro n c M hc hn hl hS hC hT
    obtain ⟨n, rfl⟩ : ∃ m, n = m + 1 := ⟨n - 1, by omega⟩
    refine ⟨M, ?_, Fr.rf, ?_⟩
    · rw [f_X2_fillFewestTurns_36, c_high hp, z_call_eq, if_pos ((nI_ltI (by unfold ups; omega) (by unfold ups; omega)).mpr (by unfold ups; omega)), zl_eq, Int32.sub_eq_add_neg]
    · rw [← mc_4 (c := c) (by omega) (by omega)]; exact hT
  | succ m ih =>
    intro n c M hc hn hl hS hC hT
    obtain ⟨n, rfl⟩ : ∃ m, n = m + 1 := ⟨n - 1, by omega⟩
    have hu : ups p c < 24 ∧ p < ups p c := by unfold ups; omega
    have e1 : M.1 41 p = nI (mc N T p (T p) c) := by rw [hT p (by omega), va_eq]
    have hb := hx (ups p c)
    have hb2 := trn_le (N := N) (p := p) (c := c)
    have hb3 := hmc c
    have f1 : Fr [41] M (zu M.1 41 p (nI (min (mc N T p (T p) c) (T (ups p c) + trn N p c))), M.2) := Fr.zu (by simp)
    obtain ⟨M', h1, h2, h3⟩ := ih n (c + 1) (zu M.1 41 p (nI (min (mc N T p (T p) c) (T (ups p c) + trn N p c))), M.2) (by omega) (by omega) (by omega) (hS.to rfl) (hC.to (fun d q1 q2 => f1.1 d (by simp; omega))) ((TT.set hT).cg (fun j _ => by rw [va_va, mc_s, inr_t hl (by omega), if_pos rfl]))
    refine ⟨M', ?_, f1.tr h2, h3⟩
    have ht : f_X2_turnsBy 40 3 (nI p) (nI (ups p c)) M = some (nI (T (ups p c) + trn N p c), M) := by
      rw [c_turnsBy hS hC hR hT hp (by omega), va_ne (by omega)]
    rw [f_X2_fillFewestTurns_36, c_high hp, z_call_eq, if_neg (nI_nlt (by unfold ups; omega) (by unfold ups; omega)), (ST.a hS (o := 40) (k := 0) (a := 41) (by decide)), z_rd_eq, z_rd_eq, ln41, if_pos (by rw [z_ixN (by omega)]; omega), ht, z_call_eq, if_pos (by rw [z_ixN (by omega)]; omega), zl_eq, nI_clamp (by omega), e1, nI_min (by omega) (by omega), zl_eq, nI_1]
    exact h1
theorem c_tf_out {N : Nat → Nat} {to : Nat} (hR : NR N) (hto : to < 24) : ∀ m n (M : zM), m ≤ to / 4 * 4 → m < n → ST M → CS M 3 N → TT M 41 (tt N to (to / 4 * 4 - m)) → ∃ M', f_X2_fillFewestTurns_26 40 3 n (nI m - 1) M = some ((), M') ∧ Fr [41] M M' ∧ TT M' 41 (tt N to (to / 4 * 4)) := by
  intro m
  induction m with
  | zero =>
    intro n M hm hn hS hC hT
    obtain ⟨n, rfl⟩ : ∃ m, n = m + 1 := ⟨n - 1, by omega⟩
    refine ⟨M, ?_, Fr.rf, hT⟩
    rw [f_X2_fillFewestTurns_26, if_pos (by decide)]
  | succ m ih =>
    intro n M hm hn hS hC hT
    obtain ⟨n, rfl⟩ : ∃ m, n = m + 1 := ⟨n - 1, by omega⟩
    have hlh := lohi m
    obtain ⟨M1, h1, h2, h3⟩ := c_tf_in (N := N) (T := tt N to (to / 4 * 4 - (m + 1))) (p := m) (K := f_X2_fillFewestTurns_26 40 3 n) (by omega) hR (fun j => by have := tt_b (N := N) (to := to) (to / 4 * 4 - (m + 1)) (by omega) j; omega) (hi m + 1 - lo m) zF (lo m) M (by omega) (by unfold zF; omega) (Nat.le_refl _) hS hC (hT.cg (fun j _ => by
      rw [mc_lo _ (Nat.le_refl _)]
      exact congrFun (va_id rfl) j))
    obtain ⟨M2, g1, g2, g3⟩ := ih n M1 (by omega) (by omega) (h2.st hS) (hC.to (fun d q1 q2 => h2.1 d (by simp; omega))) (h3.cg (fun j _ => by
      rw [show to / 4 * 4 - m = (to / 4 * 4 - (m + 1)) + 1 by omega]
      show va_up (tt N to (to / 4 * 4 - (m + 1))) (to / 4 * 4 - 1 - (to / 4 * 4 - (m + 1))) _ j = _
      rw [show to / 4 * 4 - 1 - (to / 4 * 4 - (m + 1)) = m by omega]))
    refine ⟨M2, ?_, h2.tr g2, g3⟩
    rw [f_X2_fillFewestTurns_26, show nI (m + 1) - 1 = nI m from nI_sub (b := 1) (by omega), if_neg (nI_pos (by omega)), c_low (by omega), z_call_eq, h1]
    exact g1
theorem c_tf {M : zM} {N : Nat → Nat} {to : Nat} (hS : ST M) (hC : CS M 3 N) (hR : NR N) (hto : to < 24) : ∃ M', f_X2_fillFewestTurns 40 3 (nI to) M = some ((), M') ∧ Fr [41] M M' ∧ TT M' 41 (tt N to (to / 4 * 4)) := by
  obtain ⟨M1, h1, h2, h3⟩ := c_fillr (a := 41) (v := 1000) ln41 M
  have s1 := h2.st hS
  have f2 : Fr [41] M1 (zu M1.1 41 to (nI 0), M1.2) := Fr.zu (by simp)
  have f3 := h2.tr f2
  obtain ⟨M2, g1, g2, g3⟩ := c_tf_out hR hto (to / 4 * 4) zF (zu M1.1 41 to (nI 0), M1.2) (Nat.le_refl _) (by unfold zF; omega) (f2.st s1) (hC.to (fun d q1 q2 => f3.1 d (by simp; omega))) ((TT.set h3).cg (fun j _ => by
    rw [Nat.sub_self]
    show (if j = to then 0 else 1000) = va_up (fun _ => 1000) to 0 j
    by_cases e : j = to
    · rw [if_pos e, e, va_eq]
    · rw [if_neg e, va_ne e]))
  refine ⟨M2, ?_, f3.tr g2, g3⟩
  rw [f_X2_fillFewestTurns, (ST.a hS (o := 40) (k := 0) (a := 41) (by decide)), z_rd_eq, show f_J7_fill_53178 41 1000 M = some ((), M1) from h1, z_call_eq, (ST.a s1 (o := 40) (k := 0) (a := 41) (by decide)), z_rd_eq, ln41, if_pos (by rw [z_ixN (by omega)]; omega), zl_eq, nI_clamp (by omega), f_X11_floorOf, z_call_eq, div4 (by omega), show (4 : Int32) = nI 4 from rfl, nI_mul, zl_eq]
  exact g1
-- the reference's two rows at once
theorem m_lf_in {N T W : Nat → Nat} {p k : Nat} {K : Int32 → zM → Option (Unit × zM)} (hp : p < 20) (hR : NR N) (hk : k ≤ 400) (hx : ∀ j, T j = 1000 ∨ T j ≤ k) : ∀ m n c (M : zM), c + m = 4 → m < n → ST M → MN M 55 N → TT M 72 (va_up (fun j => phi (T j)) p (phi (mc N T p (T p) c))) → TT M 73 (va_up W p (W p + sc W p c)) → ∃ M', f_X12_laysFewest_58 54 K n (nI p) (nI c) M = K (nI p - 1) M' ∧ Fr [72, 73] M M' ∧ TT M' 72 (va_up (fun j => phi (T j)) p (phi (mc N T p (T p) 4))) ∧ TT M' 73 (va_up W p (W p + sc W p 4)) := by
  intro m
  induction m with
  | zero =>
    intro n c M hc hn hS hN hT hW
    obtain ⟨n, rfl⟩ : ∃ m, n = m + 1 := ⟨n - 1, by omega⟩
    obtain rfl : c = 4 := by omega
    refine ⟨M, ?_, Fr.rf, hT, hW⟩
    rw [f_X12_laysFewest_58, if_pos (by decide), zl_eq, Int32.sub_eq_add_neg]
  | succ m ih =>
    intro n c M hc hn hS hN hT hW
    obtain ⟨n, rfl⟩ : ∃ m, n = m + 1 := ⟨n - 1, by omega⟩
    have hu : ups p c < 24 ∧ p < ups p c := by unfold ups; omega
    have e0 : (nI p / 4 * 4 + 4 + nI c : Int32) = nI (ups p c) := by
      rw [div4 (by omega), show (4 : Int32) = nI 4 from rfl, nI_mul, nI_add, nI_add]
      rfl
    have e1 : M.1 72 p = nI (phi (mc N T p (T p) c)) := by rw [hT p (by omega), va_eq]
    have e2 : M.1 72 (ups p c) = nI (phi (T (ups p c))) := by rw [hT _ hu.1, va_ne (by omega)]
    have hm1 := mc_b (N := N) (p := p) (hx p) hx hk c
    have hp1 := phi_le (mc N T p (T p) c)
    have hp2 := phi_le (T (ups p c))
    have hcs : cst N p c ≤ 1000000 := by unfold cst; by_cases q1 : min 3 (p % 4 + N (72 + p) - 1) = c <;> by_cases q2 : inr p c = true <;> simp [q1, q2]
    have hmin : min (phi (mc N T p (T p) c)) (cst N p c + phi (T (ups p c))) = phi (mc N T p (T p) (c + 1)) := by
      rw [mc_s]
      by_cases q : inr p c = true
      · rw [if_pos q, cst_trn hp q]
        exact (phi_min (by omega) (by have := hx (ups p c); omega) trn_le).symm
      · rw [if_neg q, cst_out hR (by omega) (by simpa using q), Nat.min_eq_left (by omega)]
    have f1 : Fr [72, 73] M (zu M.1 72 p (nI (phi (mc N T p (T p) (c + 1)))), M.2) := Fr.zu (by simp)
    have f1b : Fr [72] M (zu M.1 72 p (nI (phi (mc N T p (T p) (c + 1)))), M.2) := Fr.zu (by simp)
    have t1 : TT (zu M.1 72 p (nI (phi (mc N T p (T p) (c + 1)))), M.2) 72 (va_up (fun j => phi (T j)) p (phi (mc N T p (T p) (c + 1)))) := (TT.set hT).cg (fun j _ => by rw [va_va])
    have w1 : TT (zu M.1 72 p (nI (phi (mc N T p (T p) (c + 1)))), M.2) 73 (va_up W p (W p + sc W p c)) := hW.to (f1b.1 73 (by decide))
    have n1 : MN (zu M.1 72 p (nI (phi (mc N T p (T p) (c + 1)))), M.2) 55 N := hN.to (f1.1 55 (by decide))
    have s1 := f1.st hS
    have estep : f_X12_laysFewest_58 54 K (n + 1) (nI p) (nI c) M = (if (1000000 : Int32) ≤ nI (cst N p c) then (f_X12_laysFewest_135 54 K (f_X12_laysFewest_58 54 K n) (nI p) (nI c) (zu M.1 72 p (nI (phi (mc N T p (T p) (c + 1)))), M.2)) else f_X12_laysFewest_135 54 K (f_X12_laysFewest_58 54 K n) (nI p) (nI c) (zu (zu M.1 72 p (nI (phi (mc N T p (T p) (c + 1))))) 73 p (nI (W p + sc W p c + W (ups p c))), M.2)) := by
      rw [f_X12_laysFewest_58, if_neg (show ¬ (4 : Int32) ≤ nI c from nI_ge (b := 4) (by omega) (by omega)), e0, zl_eq, (ST.a hS (o := 54) (k := 31) (a := 72) (by decide)), z_rd_eq, z_rd_eq, ln72, if_pos (by rw [z_ixN (by omega)]; omega), m_cost hS hN hR (by omega) (by omega), z_call_eq, (ST.a hS (o := 54) (k := 31) (a := 72) (by decide)), z_rd_eq, ln72, if_pos (by rw [z_ixN (by omega)]; omega), nI_clamp (by omega), nI_clamp (by omega), e1, e2, nI_add, m_min (by omega) (by omega), z_call_eq, if_pos (by rw [z_ixN (by omega)]; omega), zl_eq, hmin, m_cost s1 n1 hR (by omega) (by omega), z_call_eq]
      congr 1
      have a1 : (zu M.1 72 p (nI (phi (mc N T p (T p) (c + 1)))), M.2).1 73 p = nI (W p + sc W p c) := by rw [w1 p (by omega), va_eq]
      have a2 : (zu M.1 72 p (nI (phi (mc N T p (T p) (c + 1)))), M.2).1 73 (ups p c) = nI (W (ups p c)) := by rw [w1 _ hu.1, va_ne (by omega)]
      rw [(ST.a s1 (o := 54) (k := 32) (a := 73) (by decide)), z_rd_eq, z_rd_eq, ln73, if_pos (by rw [z_ixN (by omega)]; omega), z_rd_eq, ln73, if_pos (by rw [z_ixN (by omega)]; omega), if_pos (by rw [z_ixN (by omega)]; omega), zl_eq, a1, a2, nI_add]
    rw [estep]
    by_cases q : inr p c = true
    · have hc1 : cst N p c ≤ 1 := by rw [cst_trn hp q]; exact trn_le
      have f2 : Fr [72, 73] (zu M.1 72 p (nI (phi (mc N T p (T p) (c + 1)))), M.2) (zu (zu M.1 72 p (nI (phi (mc N T p (T p) (c + 1))))) 73 p (nI (W p + sc W p c + W (ups p c))), M.2) := Fr.zu (M := (zu M.1 72 p (nI (phi (mc N T p (T p) (c + 1)))), M.2)) (by simp)
      have f2b : Fr [73] (zu M.1 72 p (nI (phi (mc N T p (T p) (c + 1)))), M.2) (zu (zu M.1 72 p (nI (phi (mc N T p (T p) (c + 1))))) 73 p (nI (W p + sc W p c + W (ups p c))), M.2) := Fr.zu (M := (zu M.1 72 p (nI (phi (mc N T p (T p) (c + 1)))), M.2)) (by simp)
      obtain ⟨M', h1, h2, h3, h4⟩ := ih n (c + 1) (zu (zu M.1 72 p (nI (phi (mc N T p (T p) (c + 1))))) 73 p (nI (W p + sc W p c + W (ups p c))), M.2) (by omega) (by omega) (f2.st s1) (n1.to (f2.1 55 (by decide))) (t1.to (f2b.1 72 (by decide))) ((TT.set w1).cg (fun j _ => by rw [va_va, sc_s, if_pos q, ← Nat.add_assoc]))
      refine ⟨M', ?_, (f1.tr f2).tr h2, h3, h4⟩
      rw [if_neg (show ¬ (1000000 : Int32) ≤ nI (cst N p c) from nI_ge (b := 1000000) (by omega) (by omega)), f_X12_laysFewest_135, zl_eq, nI_1]
      exact h1
    · have hq : inr p c = false := by simpa using q
      obtain ⟨M', h1, h2, h3, h4⟩ := ih n (c + 1) (zu M.1 72 p (nI (phi (mc N T p (T p) (c + 1)))), M.2) (by omega) (by omega) s1 n1 t1 (w1.cg (fun j _ => by rw [sc_s, if_neg q, Nat.add_zero]))
      refine ⟨M', ?_, f1.tr h2, h3, h4⟩
      rw [cst_out hR (by omega) hq, if_pos (show (1000000 : Int32) ≤ nI 1000000 by decide), f_X12_laysFewest_135, zl_eq, nI_1]
      exact h1
theorem m_lf_out {N : Nat → Nat} {to : Nat} (hR : NR N) (hto : to < 24) : ∀ m n (M : zM), m ≤ to / 4 * 4 → m < n → ST M → MN M 55 N → TT M 72 (fun j => phi (tt N to (to / 4 * 4 - m) j)) → TT M 73 (wt to (to / 4 * 4 - m)) → ∃ M', f_X12_laysFewest_52 54 n (nI m - 1) M = some ((), M') ∧ Fr [72, 73] M M' ∧ TT M' 72 (fun j => phi (tt N to (to / 4 * 4) j)) ∧ TT M' 73 (wt to (to / 4 * 4)) := by
  intro m
  induction m with
  | zero =>
    intro n M hm hn hS hN hT hW
    obtain ⟨n, rfl⟩ : ∃ m, n = m + 1 := ⟨n - 1, by omega⟩
    refine ⟨M, ?_, Fr.rf, hT, hW⟩
    rw [f_X12_laysFewest_52, if_pos (by decide)]
  | succ m ih =>
    intro n M hm hn hS hN hT hW
    obtain ⟨n, rfl⟩ : ∃ m, n = m + 1 := ⟨n - 1, by omega⟩
    obtain ⟨M1, h1, h2, h3, h4⟩ := m_lf_in (N := N) (T := tt N to (to / 4 * 4 - (m + 1))) (W := wt to (to / 4 * 4 - (m + 1))) (p := m) (k := 24) (K := f_X12_laysFewest_52 54 n) (by omega) hR (by omega) (fun j => by have := tt_b (N := N) (to := to) (to / 4 * 4 - (m + 1)) (by omega) j; omega) 4 zF 0 M (by omega) (by unfold zF; omega) hS hN (hT.cg (fun j _ => congrFun (va_id rfl) j)) (hW.cg (fun j _ => congrFun (va_id (Nat.add_zero _).symm) j))
    obtain ⟨M2, g1, g2, g3, g4⟩ := ih n M1 (by omega) (by omega) (h2.st hS) (hN.to (h2.1 55 (by decide))) (h3.cg (fun j _ => by
      rw [show to / 4 * 4 - m = (to / 4 * 4 - (m + 1)) + 1 by omega]
      show phi (va_up (tt N to (to / 4 * 4 - (m + 1))) (to / 4 * 4 - 1 - (to / 4 * 4 - (m + 1))) _ j) = _
      rw [show to / 4 * 4 - 1 - (to / 4 * 4 - (m + 1)) = m by omega]
      by_cases e : j = m
      · rw [e, va_eq, va_eq]
      · rw [va_ne e, va_ne e])) (h4.cg (fun j _ => by
      rw [show to / 4 * 4 - m = (to / 4 * 4 - (m + 1)) + 1 by omega]
      show va_up (wt to (to / 4 * 4 - (m + 1))) (to / 4 * 4 - 1 - (to / 4 * 4 - (m + 1))) _ j = _
      rw [show to / 4 * 4 - 1 - (to / 4 * 4 - (m + 1)) = m by omega]))
    refine ⟨M2, ?_, h2.tr g2, g3, g4⟩
    rw [f_X12_laysFewest_52, show nI (m + 1) - 1 = nI m from nI_sub (b := 1) (by omega), if_neg (nI_pos (by omega)), show (0 : Int32) = nI 0 from rfl, h1]
    exact g1
theorem m_lf_fill {N : Nat → Nat} {to : Nat} (hR : NR N) (hto : to < 24) : ∀ m n i (M : zM), i + m = 24 → m < n → ST M → MN M 55 N → (∀ j, j < i → M.1 72 j = nI 1000000 ∧ M.1 73 j = nI 0) → ∃ M', f_X12_laysFewest_2 54 (nI to) n (nI i) M = some ((), M') ∧ Fr [72, 73] M M' ∧ TT M' 72 (fun j => phi (tt N to (to / 4 * 4) j)) ∧ TT M' 73 (wt to (to / 4 * 4)) := by
  intro m
  induction m with
  | zero =>
    intro n i M hi hn hS hN h
    obtain ⟨n, rfl⟩ : ∃ m, n = m + 1 := ⟨n - 1, by omega⟩
    obtain rfl : i = 24 := by omega
    have f1 : Fr [72, 73] M (zu M.1 72 to (nI 0), M.2) := Fr.zu (by simp)
    have f2 : Fr [72, 73] (zu M.1 72 to (nI 0), M.2) (zu (zu M.1 72 to (nI 0)) 73 to (nI 1), M.2) := Fr.zu (M := (zu M.1 72 to (nI 0), M.2)) (by simp)
    have f3 := f1.tr f2
    obtain ⟨M', g1, g2, g3, g4⟩ := m_lf_out hR hto (to / 4 * 4) zF (zu (zu M.1 72 to (nI 0)) 73 to (nI 1), M.2) (Nat.le_refl _) (by unfold zF; omega) (f3.st hS) (hN.to (f3.1 55 (by decide))) (by
        intro j hj
        rw [Nat.sub_self]
        show zu (zu M.1 72 to (nI 0)) 73 to (nI 1) 72 j = nI (phi (if j = to then 0 else 1000))
        rw [zu_cell _ _ _ (by decide), zu_self]
        by_cases e : j = to
        · rw [if_pos e, e, va_eq]; rfl
        · rw [if_neg e, va_ne e, (h j hj).1]; rfl) (by
        intro j hj
        rw [Nat.sub_self]
        show zu (zu M.1 72 to (nI 0)) 73 to (nI 1) 73 j = nI (if j = to then 1 else 0)
        rw [zu_self, zu_cell _ _ _ (by decide)]
        by_cases e : j = to
        · rw [if_pos e, e, va_eq]
        · rw [if_neg e, va_ne e, (h j hj).2])
    refine ⟨M', ?_, f3.tr g2, g3, g4⟩
    have s1 := f1.st hS
    rw [f_X12_laysFewest_2, if_pos (by decide), (ST.a hS (o := 54) (k := 31) (a := 72) (by decide)), z_rd_eq, ln72, if_pos (by rw [z_ixN (by omega)]; omega), zl_eq, nI_clamp (by omega), show (0 : Int32) = nI 0 from rfl, (ST.a s1 (o := 54) (k := 32) (a := 73) (by decide)), z_rd_eq, ln73, if_pos (by rw [z_ixN (by omega)]; omega), zl_eq, div4 (by omega), show (4 : Int32) = nI 4 from rfl, nI_mul, zl_eq]
    exact g1
  | succ m ih =>
    intro n i M hi hn hS hN h
    obtain ⟨n, rfl⟩ : ∃ m, n = m + 1 := ⟨n - 1, by omega⟩
    have f1 : Fr [72, 73] M (zu M.1 72 i (nI 1000000), M.2) := Fr.zu (by simp)
    have f2 : Fr [72, 73] (zu M.1 72 i (nI 1000000), M.2) (zu (zu M.1 72 i (nI 1000000)) 73 i (nI 0), M.2) := Fr.zu (M := (zu M.1 72 i (nI 1000000), M.2)) (by simp)
    have f3 := f1.tr f2
    obtain ⟨M', g1, g2, g3, g4⟩ := ih n (i + 1) (zu (zu M.1 72 i (nI 1000000)) 73 i (nI 0), M.2) (by omega) (by omega) (f3.st hS) (hN.to (f3.1 55 (by decide))) (fun j hj => by
      refine ⟨?_, ?_⟩
      · show zu (zu M.1 72 i (nI 1000000)) 73 i (nI 0) 72 j = _
        rw [zu_cell _ _ _ (by decide), zu_self]
        by_cases e : j = i
        · rw [e, va_eq]
        · rw [va_ne e]; exact (h j (by omega)).1
      · show zu (zu M.1 72 i (nI 1000000)) 73 i (nI 0) 73 j = _
        rw [zu_self, zu_cell _ _ _ (by decide)]
        by_cases e : j = i
        · rw [e, va_eq]
        · rw [va_ne e]; exact (h j (by omega)).2)
    refine ⟨M', ?_, f3.tr g2, g3, g4⟩
    have s1 := f1.st hS
    rw [f_X12_laysFewest_2, if_neg (show ¬ (24 : Int32) ≤ nI i from nI_ge (b := 24) (by omega) (by omega)), (ST.a hS (o := 54) (k := 31) (a := 72) (by decide)), z_rd_eq, ln72, if_pos (by rw [z_ixN (by omega)]; omega), zl_eq, nI_clamp (by omega), show (1000000 : Int32) = nI 1000000 from rfl, (ST.a s1 (o := 54) (k := 32) (a := 73) (by decide)), z_rd_eq, ln73, if_pos (by rw [z_ixN (by omega)]; omega), zl_eq, zl_eq, nI_1]
    exact g1
theorem m_lf {M : zM} {N : Nat → Nat} {to : Nat} (hS : ST M) (hN : MN M 55 N) (hR : NR N) (hto : to < 24) : ∃ M', f_X12_laysFewest 54 (nI to) M = some ((), M') ∧ Fr [72, 73] M M' ∧ TT M' 72 (fun j => phi (tt N to (to / 4 * 4) j)) ∧ TT M' 73 (wt to (to / 4 * 4)) := m_lf_fill hR hto 24 zF 0 M (by omega) (by unfold zF; omega) hS hN (fun j hj => by omega)
