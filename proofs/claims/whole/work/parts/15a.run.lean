/-! a law's steps: what they come to -/
def rk (op : Nat) (x y : Int32) : Int32 := match op with
  | 2 => x + y
  | 3 => x - y
  | 4 => x * y
  | 5 => x / y
  | 6 => x - x / y * y
  | 7 => if y ≤ x then 0 else 1
  | 8 => if x ≤ y then 0 else 1
  | _ => if x = y then 1 else 0
/-- steps from k on, the stack of height n; none: refused -/
def ev (cd fc : Nat → Int32) (e : Nat) : Nat → Nat → Nat → (Nat → Int32) → Option Int32
  | 0, _, _, _ => none
  | f + 1, k, n, S =>
    if e ≤ k then some (S 0)
    else if (cd k).toNatClampNeg / 1048576 = 0 then ev cd fc e f (k + 1) (n + 1) (va_up S n (nI ((cd k).toNatClampNeg % 1048576)))
    else if (cd k).toNatClampNeg / 1048576 = 1 then ev cd fc e f (k + 1) (n + 1) (va_up S n (fc ((cd k).toNatClampNeg % 1048576)))
    else if (cd k).toNatClampNeg / 1048576 = 10 then ev cd fc e f (k + 1) n (va_up S (n - 1) (1 - S (n - 1)))
    else if (cd k).toNatClampNeg / 1048576 = 11 then (if S (n - 1) = 0 then ev cd fc e f ((cd k).toNatClampNeg % 1048576) n S else ev cd fc e f (k + 1) (n - 1) S)
    else if (cd k).toNatClampNeg / 1048576 = 12 then (if S (n - 1) = 1 then ev cd fc e f ((cd k).toNatClampNeg % 1048576) n S else ev cd fc e f (k + 1) (n - 1) S)
    else if ((cd k).toNatClampNeg / 1048576 = 5 ∨ (cd k).toNatClampNeg / 1048576 = 6) ∧ S (n - 1) = 0 then none
    else ev cd fc e f (k + 1) (n - 1) (va_up S (n - 2) (rk ((cd k).toNatClampNeg / 1048576) (S (n - 2)) (S (n - 1))))
theorem ev_end {cd fc : Nat → Int32} {e f k n : Nat} {S : Nat → Int32} (h : e ≤ k) : ev cd fc e (f + 1) k n S = some (S 0) := by rw [ev, if_pos h]
theorem ev_num {cd fc : Nat → Int32} {e f k n v : Nat} {S : Nat → Int32} (h : k < e) (hc : cd k = nI v) (hv : v < 100000) : ev cd fc e (f + 1) k n S = ev cd fc e f (k + 1) (n + 1) (va_up S n (nI v)) := by
  rw [ev, if_neg (by omega), hc, nI_clamp (by omega), if_pos (by omega), show v % 1048576 = v by omega]
theorem ev_let {cd fc : Nat → Int32} {e f k n i : Nat} {S : Nat → Int32} (h : k < e) (hc : cd k = nI (1048576 + i)) (hi : i < 8) : ev cd fc e (f + 1) k n S = ev cd fc e f (k + 1) (n + 1) (va_up S n (fc i)) := by
  rw [ev, if_neg (by omega), hc, nI_clamp (by omega), if_neg (by omega), if_pos (by omega), show (1048576 + i) % 1048576 = i by omega]
theorem ev_not {cd fc : Nat → Int32} {e f k n : Nat} {S : Nat → Int32} (h : k < e) (hc : cd k = nI (1048576 * 10)) : ev cd fc e (f + 1) k n S = ev cd fc e f (k + 1) n (va_up S (n - 1) (1 - S (n - 1))) := by
  rw [ev, if_neg (by omega), hc, nI_clamp (by omega), if_neg (by omega), if_neg (by omega), if_pos (by omega)]
theorem ev_and {cd fc : Nat → Int32} {e f k n t : Nat} {S : Nat → Int32} (h : k < e) (hc : cd k = nI (1048576 * 11 + t)) (ht : t ≤ 240) : ev cd fc e (f + 1) k n S = if S (n - 1) = 0 then ev cd fc e f t n S else ev cd fc e f (k + 1) (n - 1) S := by
  rw [ev, if_neg (by omega), hc, nI_clamp (by omega), if_neg (by omega), if_neg (by omega), if_neg (by omega), if_pos (by omega), show (1048576 * 11 + t) % 1048576 = t by omega]
theorem ev_or {cd fc : Nat → Int32} {e f k n t : Nat} {S : Nat → Int32} (h : k < e) (hc : cd k = nI (1048576 * 12 + t)) (ht : t ≤ 240) : ev cd fc e (f + 1) k n S = if S (n - 1) = 1 then ev cd fc e f t n S else ev cd fc e f (k + 1) (n - 1) S := by
  rw [ev, if_neg (by omega), hc, nI_clamp (by omega), if_neg (by omega), if_neg (by omega), if_neg (by omega), if_neg (by omega), if_pos (by omega), show (1048576 * 12 + t) % 1048576 = t by omega]
theorem ev_op {cd fc : Nat → Int32} {e f k n o : Nat} {S : Nat → Int32} (h : k < e) (hc : cd k = nI (1048576 * o)) (h1 : 2 ≤ o) (h2 : o ≤ 9) : ev cd fc e (f + 1) k n S = if (o = 5 ∨ o = 6) ∧ S (n - 1) = 0 then none else ev cd fc e f (k + 1) (n - 1) (va_up S (n - 2) (rk o (S (n - 2)) (S (n - 1)))) := by
  have q : 1048576 * o / 1048576 = o := Nat.mul_div_cancel_left o (by omega)
  rw [ev, if_neg (by omega), hc, nI_clamp (by omega), q, if_neg (by omega), if_neg (by omega), if_neg (by omega), if_neg (by omega), if_neg (by omega)]
/-- the height of the reference's stack -/
def hg (t : Nat) : Nat := if t = 100 then 1 else t
theorem hg_o {t : Nat} (h : t ≤ 15) : hg t = t := by unfold hg; rw [if_neg (by omega)]
theorem hg_100 : hg 100 = 1 := rfl
-- the reference
theorem ln65 : z_ln SH 65 = 260 := by decide
theorem ln70 : z_ln SH 70 = 260 := by decide
theorem ln71 : z_ln SH 71 = 8 := by decide
theorem m_reckon {o : Nat} {x y : Int32} {M : zM} (h1 : 2 ≤ o) (h2 : o ≤ 9) (hy : (o = 5 ∨ o = 6) → y ≠ 0) : f_X12_reckon (nI o) x y M = some (rk o x y, M) := by
  unfold f_X12_reckon
  rcases (show o = 2 ∨ o = 3 ∨ o = 4 ∨ o = 5 ∨ o = 6 ∨ o = 7 ∨ o = 8 ∨ o = 9 by omega) with rfl | rfl | rfl | rfl | rfl | rfl | rfl | rfl
  · rw [if_pos (by decide)]; rfl
  · rw [if_neg (by decide), if_pos (by decide)]; rfl
  · rw [if_neg (by decide), if_neg (by decide), if_pos (by decide)]; rfl
  · rw [if_neg (by decide), if_neg (by decide), if_neg (by decide), if_pos (by decide), if_pos (hy (Or.inl rfl))]; rfl
  · rw [if_neg (by decide), if_neg (by decide), if_neg (by decide), if_neg (by decide), if_pos (by decide), if_pos (hy (Or.inr rfl))]; rfl
  · rw [if_neg (by decide), if_neg (by decide), if_neg (by decide), if_neg (by decide), if_neg (by decide), if_pos (by decide)]
    show _ = some (if y ≤ x then 0 else 1, M)
    by_cases q : y ≤ x
    · rw [if_pos q, if_pos q]
    · rw [if_neg q, if_neg q]
  · rw [if_neg (by decide), if_neg (by decide), if_neg (by decide), if_neg (by decide), if_neg (by decide), if_neg (by decide), if_pos (by decide)]
    show _ = some (if x ≤ y then 0 else 1, M)
    by_cases q : x ≤ y
    · rw [if_pos q, if_pos q]
    · rw [if_neg q, if_neg q]
  · rw [if_neg (by decide), if_neg (by decide), if_neg (by decide), if_neg (by decide), if_neg (by decide), if_neg (by decide), if_neg (by decide)]
    show _ = some (if x = y then 1 else 0, M)
    by_cases q : x = y
    · rw [if_pos q, if_pos q]
    · rw [if_neg q, if_neg q]
def RM (M : zM) (n : Nat) (S : Nat → Int32) : Prop := ∀ j, j < n → M.1 70 j = S j
theorem RM.set {M : zM} {n i : Nat} {v : Int32} {S : Nat → Int32} (h : ∀ j, j < n → j ≠ i → M.1 70 j = S j) : RM (zu M.1 70 i v, M.2) n (va_up S i v) := by
  intro j hj
  show zu M.1 70 i v 70 j = _
  by_cases e : j = i
  · rw [e, zu_same, va_eq]
  · rw [zu_ne _ _ _ e, va_ne e]; exact h j hj e
/-- the step that the reference takes, in its words -/
theorem m_step {M : zM} {e k n f c : Nat} {cd : Nat → Int32} (hS : ST M) (h65 : M.1 65 = cd) (hk : k < e) (he : e ≤ 240) (hc : cd k = nI c) (hcb : c < 2 ^ 31) : f_X12_comesTo_16 54 (nI e) (f + 1) (nI n) 0 (nI k) M = (if nI (c / 1048576) = 0 then (f_X12_comesTo_63 54 (nI e) (f_X12_comesTo_16 54 (nI e) f) (nI n) 0 (nI (k + 1)) (nI (c / 1048576)) (nI (c % 1048576)) M) else (if nI (c / 1048576) = 1 then (f_X12_comesTo_63 54 (nI e) (f_X12_comesTo_16 54 (nI e) f) (nI n) 0 (nI (k + 1)) (nI (c / 1048576)) (nI (c % 1048576)) M) else (if nI (c / 1048576) = 10 then z_rd (M.2.1 54 25) fun a_19 => z_rd (M.2.1 54 25) fun a_20 => if z_ix (nI n - 1) (z_ln SH a_20) = true then if z_ix (nI n - 1) (z_ln SH a_19) = true then zl (zu M.1 a_19 ((nI n - 1) : Int32).toNatClampNeg (1 - (M.1 a_20 ((nI n - 1) : Int32).toNatClampNeg)), M.2) fun M_23 => (f_X12_comesTo_230 54 (nI e) (f_X12_comesTo_16 54 (nI e) f) (nI n) 0 (nI (k + 1)) M_23) else none else none else (if nI (c / 1048576) = 11 then (f_X12_comesTo_135 54 (nI e) (f_X12_comesTo_16 54 (nI e) f) (nI n) 0 (nI (k + 1)) (nI (c / 1048576)) (nI (c % 1048576)) M) else (if nI (c / 1048576) = 12 then (f_X12_comesTo_135 54 (nI e) (f_X12_comesTo_16 54 (nI e) f) (nI n) 0 (nI (k + 1)) (nI (c / 1048576)) (nI (c % 1048576)) M) else zl ((nI n - 1)) fun x3_16 => (if nI (c / 1048576) = 5 then (f_X12_comesTo_192 54 (nI e) (f_X12_comesTo_16 54 (nI e) f) x3_16 0 (nI (k + 1)) (nI (c / 1048576)) M) else (if nI (c / 1048576) = 6 then (f_X12_comesTo_192 54 (nI e) (f_X12_comesTo_16 54 (nI e) f) x3_16 0 (nI (k + 1)) (nI (c / 1048576)) M) else (f_X12_comesTo_203 54 (nI e) (f_X12_comesTo_16 54 (nI e) f) x3_16 0 (nI (k + 1)) (nI (c / 1048576)) M)))))))) := by
  rw [f_X12_comesTo_16, if_neg (nI_ge hk (by omega)), (ST.a hS (o := 54) (k := 20) (a := 65) (by decide)), z_rd_eq, ln65, if_pos (by rw [z_ixN (by omega)]; omega), zl_eq, z_rd_eq, ln65, if_pos (by rw [z_ixN (by omega)]; omega), zl_eq, zl_eq, nI_1, nI_clamp (by omega), h65, hc, show (1048576 : Int32) = nI 1048576 from rfl, nI_div hcb (by omega) (by omega), show nI c - nI (c / 1048576) * nI 1048576 = nI (c % 1048576) from by rw [← nI_div hcb (by omega) (by omega)]; exact rem_nI hcb (by omega) (by omega)]
