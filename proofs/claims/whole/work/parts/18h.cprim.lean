/-! reading a law: conditions, single steps of the reference -/
noncomputable def Ex (k n1 n2 : Nat) (W : zM) : Option (Int32 × zM) := z_call (f_X12_endsPiece_0 54 k W) (fun _ W1 => f_X12_readsCondition_92 54 (f_X12_readsCondition_40 54 n1) n2 W1)
theorem r_ep1 {W : zM} {B : Nat → Nat} {e p s w o : Nat} (h : KR W B e p s (w + 1) (o + 1)) (hw : w < 260) (hs : s < 260) (ht : tpo W (w + 1) 10) : ∃ W', (∀ k, f_X12_endsPiece_0 54 (k + 1) W = f_X12_endsPiece_0 54 k W') ∧ KR W' B e p (s + 1) w o ∧ KX s w W W' ∧ W'.1 59 s = nI (1048576 * 10) := by
  obtain ⟨W1, i1, i2, i3, i4, i5⟩ := r_notes (a := 10) (v := 0) h hs
  obtain ⟨W2, d2⟩ : ∃ W2 : zM, W2 = (zu W1.1 54 11 (nI w), W1.2) := ⟨_, rfl⟩
  obtain ⟨W3, d3⟩ : ∃ W3 : zM, W3 = (zu W2.1 54 9 (nI o), W2.2) := ⟨_, rfl⟩
  have x1 : KX s w W W1 := KX.rf.tr i3 (Nat.le_refl _) (by omega)
  have x2 : KX s w W W2 := x1.tr (by rw [d2]; exact KX.r (s := s) (w := w) (by simp)) (Nat.le_refl _) (Nat.le_refl _)
  have x3 : KX s w W W3 := x2.tr (by rw [d3]; exact KX.r (s := s) (w := w) (by simp)) (Nat.le_refl _) (Nat.le_refl _)
  have e3 : ∀ i, i ≠ 9 → W3.1 54 i = W2.1 54 i := fun i hi => by rw [d3]; exact zpn hi
  have e2 : ∀ i, i ≠ 11 → W2.1 54 i = W1.1 54 i := fun i hi => by rw [d2]; exact zpn hi
  refine ⟨W3, fun k => ?_, h.mk2 x3 ?_ ?_ ?_ ?_, x3, ?_⟩
  · rw [f_X12_endsPiece_0, r_wt h (by omega) ht, z_call_eq, if_pos (by decide), show (10 : Int32) = nI 10 from rfl, show (0 : Int32) = nI 0 from rfl, i1, z_call_eq, i2.2.2.2.2.1, show (nI (w + 1) - 1 : Int32) = nI w from nI_pred w, zl_eq, ← d2, e2 9 (by decide), i2.2.2.2.2.2, show (nI (o + 1) - 1 : Int32) = nI o from nI_pred o, zl_eq, ← d3]
  · rw [e3 5 (by decide), e2 5 (by decide)]; exact i2.2.2.1.1
  · rw [e3 10 (by decide), e2 10 (by decide)]; exact i2.2.2.2.1
  · rw [e3 11 (by decide), d2]; exact zps
  · rw [d3]; exact zps
  · rw [d3]
    show zu W2.1 54 9 (nI o) 59 s = _
    rw [zu_cell _ _ _ (by decide), d2]
    show zu W1.1 54 11 (nI w) 59 s = _
    rw [zu_cell _ _ _ (by decide)]
    exact i4
theorem r_ep0 {W : zM} {B : Nat → Nat} {e p s w o k j : Nat} (h : KR W B e p s w o) (hw : w ≤ 260) (ht : tpo W w j) (hj : j ≠ 10) (hj2 : j ≤ 14) : f_X12_endsPiece_0 54 (k + 1) W = some ((), W) := by
  rw [f_X12_endsPiece_0, r_wt h hw ht, z_call_eq, if_neg (show ¬ nI j = (10 : Int32) from fun hh => by have := (nI_eq (b := 10) (by omega) (by omega)).mp hh; omega)]
theorem ex_0 {W : zM} {B : Nat → Nat} {e p s w o k n1 n2 j : Nat} (h : KR W B e p s w o) (hw : w ≤ 260) (ht : tpo W w j) (hj : j ≠ 10) (hj2 : j ≤ 14) : Ex (k + 1) n1 n2 W = f_X12_readsCondition_92 54 (f_X12_readsCondition_40 54 n1) n2 W := by
  unfold Ex
  rw [r_ep0 h hw ht hj hj2, z_call_eq]
/-- a waiting jump lands -/
theorem r_la1 {W : zM} {B : Nat → Nat} {e p s w o j t : Nat} (h : KR W B e p s (w + 1) o) (hw : w < 260) (hs : s ≤ 260) (hj : j = 11 ∨ j = 12) (ht : t < s) (h60 : W.1 60 w = nI (1048576 * j + t)) (h59 : W.1 59 t = nI (1048576 * j)) : ∃ W', (∀ x k, (j = 11 ∨ x = 1) → f_X12_lands_0 54 x (k + 1) W = f_X12_lands_0 54 x k W') ∧ KR W' B e p s w o ∧ KX t w W W' ∧ W'.1 59 = va_up (W.1 59) t (nI (1048576 * j + s)) := by
  obtain ⟨h1, h2, h3, h4, h5, h6⟩ := id h
  have htp : tpo W (w + 1) j := tpo.mk h60 (by omega) (by omega)
  obtain ⟨W1, d1⟩ : ∃ W1 : zM, W1 = (zu W.1 59 t (nI (1048576 * j + s)), W.2) := ⟨_, rfl⟩
  obtain ⟨W2, d2⟩ : ∃ W2 : zM, W2 = (zu W1.1 54 11 (nI w), W1.2) := ⟨_, rfl⟩
  have x1 : KX t w W W1 := by rw [d1]; exact KX.sd (Nat.le_refl _)
  have x2 : KX t w W W2 := x1.tr (by rw [d2]; exact KX.r (s := t) (w := w) (by simp)) (Nat.le_refl _) (Nat.le_refl _)
  have e2 : ∀ i, i ≠ 11 → W2.1 54 i = W1.1 54 i := fun i hi => by rw [d2]; exact zpn hi
  have c54 : W1.1 54 = W.1 54 := by rw [d1]; exact zpc (by decide)
  have h22 : ∀ x k, f_X12_lands_22 54 x k W = k W2 := by
    intro x k
    have hr : (nI (1048576 * j + t) - nI (1048576 * j + t) / 1048576 * 1048576 : Int32) = nI t := (rem_nI (b := 1048576) (by omega) (by omega) (by omega)).trans (by rw [show (1048576 * j + t) % 1048576 = t by omega])
    have hd : (1048576 * (nI (1048576 * j) / 1048576) + nI s : Int32) = nI (1048576 * j + s) := by
      rw [show (nI (1048576 * j) / 1048576 : Int32) = nI j from (nI_div (d := 1048576) (by omega) (by omega) (by omega)).trans (by rw [Nat.mul_div_cancel_left j (by omega)])]
      simp only [lit, nI_mul, nI_add]
    rw [f_X12_lands_22, (ST.a h1 (o := 54) (k := 15) (a := 60) (by decide)), z_rd_eq, h5, show (nI (w + 1) - 1 : Int32) = nI w from nI_pred w, ln60, if_pos (by rw [z_ixN (by omega)]; omega), nI_clamp (by omega), h60, hr, zl_eq, (ST.a h1 (o := 54) (k := 14) (a := 59) (by decide)), z_rd_eq, z_rd_eq, ln59, if_pos (by rw [z_ixN (by omega)]; omega), if_pos (by rw [z_ixN (by omega)]; omega), zl_eq, nI_clamp (by omega), h59, h4, hd, ← d1, c54, h5, show (nI (w + 1) - 1 : Int32) = nI w from nI_pred w, zl_eq, ← d2]
  refine ⟨W2, fun x k hx => ?_, h.mk2 x2 ?_ ?_ ?_ ?_, x2, ?_⟩
  · rw [f_X12_lands_0, r_wt h (by omega) htp, z_call_eq]
    rcases hj with rfl | rfl
    · rw [if_pos (by decide), h22]
    · have hx1 : x = 1 := by
        rcases hx with hx | hx
        · exact absurd hx (by decide)
        · exact hx
      rw [if_neg (by decide), hx1, if_neg (by decide), r_wt h (by omega) htp, z_call_eq, if_pos (by decide), h22]
  · rw [e2 5 (by decide), c54]; exact h3.1
  · rw [e2 10 (by decide), c54]; exact h4
  · rw [d2]; exact zps
  · rw [e2 9 (by decide), c54]; exact h6
  · rw [d2]
    show zu W1.1 54 11 (nI w) 59 = _
    rw [zu_cell _ _ _ (by decide), d1]
    show zu W.1 59 t (nI (1048576 * j + s)) 59 = _
    rw [zu_self]
theorem r_la0 {W : zM} {B : Nat → Nat} {e p s w o k j : Nat} {x : Int32} (h : KR W B e p s w o) (hw : w ≤ 260) (ht : tpo W w j) (hj : j ≠ 11) (hj2 : j ≤ 14) (hx : x = 0 ∨ j ≠ 12) : f_X12_lands_0 54 x (k + 1) W = some ((), W) := by
  rw [f_X12_lands_0, r_wt h hw ht, z_call_eq, if_neg (show ¬ nI j = (11 : Int32) from fun hh => by have := (nI_eq (b := 11) (by omega) (by omega)).mp hh; omega)]
  by_cases h0 : x = 0
  · rw [if_pos h0]
  · have hj12 : j ≠ 12 := by
      rcases hx with hx | hx
      · exact absurd hx h0
      · exact hx
    rw [if_neg h0, r_wt h hw ht, z_call_eq, if_neg (show ¬ nI j = (12 : Int32) from fun hh => by have := (nI_eq (b := 12) (by omega) (by omega)).mp hh; omega)]
theorem land_end {W Wa : zM} {B : Nat → Nat} {e p s w o d j : Nat} {x : Int32} (hd : d ≤ 2) (hc : ∀ k, f_X12_lands_0 54 x (k + d) W = f_X12_lands_0 54 x k Wa) (h : KR Wa B e p s w o) (hw : w ≤ 260) (ht : tpo Wa w j) (hj : j ≠ 11) (hj2 : j ≤ 14) (hx : x = 0 ∨ j ≠ 12) : f_X12_lands 54 x W = some ((), Wa) := by
  have := hc (zF - d)
  rw [show zF - d + d = zF by unfold zF; omega] at this
  rw [f_X12_lands, this, show zF - d = (zF - d - 1) + 1 by unfold zF; omega]
  exact r_la0 h hw ht hj hj2 hx
theorem r_jump {W : zM} {B : Nat → Nat} {e p s w o j : Nat} (h : KR W B e p s w o) (hw : w < 260) (hs : s < 260) : ∃ W', f_X12_jumps 54 (nI j) W = some ((), W') ∧ KR W' B e (p + 1) (s + 1) (w + 1) o ∧ KX s w W W' ∧ W'.1 60 w = nI (1048576 * j + s) ∧ W'.1 59 s = nI (1048576 * j) := by
  obtain ⟨h1, h2, h3, h4, h5, h6⟩ := id h
  obtain ⟨W1, d1⟩ : ∃ W1 : zM, W1 = (zu W.1 60 w (nI (1048576 * j + s)), W.2) := ⟨_, rfl⟩
  obtain ⟨W2, d2⟩ : ∃ W2 : zM, W2 = (zu W1.1 54 11 (nI (w + 1)), W1.2) := ⟨_, rfl⟩
  have x1 : KX s w W W1 := by rw [d1]; exact KX.wt (Nat.le_refl _)
  have x2 : KX s w W W2 := x1.tr (by rw [d2]; exact KX.r (s := s) (w := w) (by simp)) (Nat.le_refl _) (Nat.le_refl _)
  have c54 : W1.1 54 = W.1 54 := by rw [d1]; exact zpc (by decide)
  have e2 : ∀ i, i ≠ 11 → W2.1 54 i = W1.1 54 i := fun i hi => by rw [d2]; exact zpn hi
  have k2 : KR W2 B e p s (w + 1) o := h.mk2 x2 (by rw [e2 5 (by decide), c54]; exact h3.1) (by rw [e2 10 (by decide), c54]; exact h4) (by rw [d2]; exact zps) (by rw [e2 9 (by decide), c54]; exact h6)
  obtain ⟨W3, n1, n2, n3, n4, n5⟩ := r_notes (a := j) (v := 0) k2 hs
  obtain ⟨W4, d4⟩ : ∃ W4 : zM, W4 = (zu W3.1 54 5 (nI (p + 1)), W3.2) := ⟨_, rfl⟩
  have x4 : KX s w W W4 := (x2.tr n3 (Nat.le_refl _) (by omega)).tr (by rw [d4]; exact KX.r (s := s) (w := w) (by simp)) (Nat.le_refl _) (Nat.le_refl _)
  have e4 : ∀ i, i ≠ 5 → W4.1 54 i = W3.1 54 i := fun i hi => by rw [d4]; exact zpn hi
  refine ⟨W4, ?_, h.mk2 x4 ?_ ?_ ?_ ?_, x4, ?_, ?_⟩
  · rw [f_X12_jumps, (ST.a h1 (o := 54) (k := 15) (a := 60) (by decide)), z_rd_eq, h5, ln60, if_pos (by rw [z_ixN (by omega)]; omega), zl_eq, nI_clamp (by omega), h4, show (1048576 * nI j + nI s : Int32) = nI (1048576 * j + s) by simp only [lit, nI_mul, nI_add], ← d1, zl_eq, c54, h5, nI_1, ← d2, show (0 : Int32) = nI 0 from rfl, n1, z_call_eq, n2.2.2.1.1, nI_1, zl_eq, ← d4]
  · rw [d4]; exact zps
  · rw [e4 10 (by decide)]; exact n2.2.2.2.1
  · rw [e4 11 (by decide)]; exact n2.2.2.2.2.1
  · rw [e4 9 (by decide)]; exact n2.2.2.2.2.2
  · rw [d4]
    show zu W3.1 54 5 (nI (p + 1)) 60 w = _
    rw [zu_cell _ _ _ (by decide), n5, d2]
    show zu W1.1 54 11 (nI (w + 1)) 60 w = _
    rw [zu_cell _ _ _ (by decide), d1]
    exact zps
  · rw [d4]
    show zu W3.1 54 5 (nI (p + 1)) 59 s = _
    rw [zu_cell _ _ _ (by decide)]
    exact n4
/-- the loop of pieces: a ) that closes -/
theorem rc_close {W Wb : zM} {B : Nat → Nat} {e p s sR w wR o n : Nat} {k : zM → Option (Int32 × zM)} (h : KR W B e p sR wR (o + 1)) (he : e ≤ 240) (hp : p ≤ e) (hs : sg B e p = 41) (hc : f_X12_lands 54 1 W = some ((), Wb)) (ha : KR Wb B e p s (w + 1) (o + 1)) (hw : w < 260) : ∃ W', (w = 0 → f_X12_readsCondition_92 54 k (n + 1) W = some (1, W')) ∧ (w ≠ 0 → f_X12_readsCondition_92 54 k (n + 1) W = z_call (f_X12_endsPiece 54 W') (fun _ W1 => f_X12_readsCondition_92 54 k n W1)) ∧ KR W' B e (p + 1) s w o ∧ KX s w Wb W' ∧ W'.1 59 = Wb.1 59 := by
  obtain ⟨h1, h2, h3, h4, h5, h6⟩ := id ha
  obtain ⟨W2, d2⟩ : ∃ W2 : zM, W2 = (zu Wb.1 54 11 (nI w), Wb.2) := ⟨_, rfl⟩
  obtain ⟨W3, d3⟩ : ∃ W3 : zM, W3 = (zu W2.1 54 9 (nI o), W2.2) := ⟨_, rfl⟩
  obtain ⟨W4, d4⟩ : ∃ W4 : zM, W4 = (zu W3.1 54 5 (nI (p + 1)), W3.2) := ⟨_, rfl⟩
  have x2 : KX s w Wb W2 := by rw [d2]; exact KX.r (by simp)
  have x3 : KX s w Wb W3 := x2.tr (by rw [d3]; exact KX.r (s := s) (w := w) (by simp)) (Nat.le_refl _) (Nat.le_refl _)
  have x4 : KX s w Wb W4 := x3.tr (by rw [d4]; exact KX.r (s := s) (w := w) (by simp)) (Nat.le_refl _) (Nat.le_refl _)
  have e4 : ∀ i, i ≠ 5 → W4.1 54 i = W3.1 54 i := fun i hi => by rw [d4]; exact zpn hi
  have e3 : ∀ i, i ≠ 9 → W3.1 54 i = W2.1 54 i := fun i hi => by rw [d3]; exact zpn hi
  have e2 : ∀ i, i ≠ 11 → W2.1 54 i = Wb.1 54 i := fun i hi => by rw [d2]; exact zpn hi
  have e11 : W4.1 54 11 = nI w := by rw [e4 11 (by decide), e3 11 (by decide), d2]; exact zps
  have hd : f_X12_readsCondition_92 54 k (n + 1) W = (if nI w = 0 then some (1, W4) else z_call (f_X12_endsPiece 54 W4) (fun _ W1 => f_X12_readsCondition_92 54 k n W1)) := by
    rw [f_X12_readsCondition_92, h.h he hp, z_call_eq, hs, if_pos rfl, hc, z_call_eq, h5, show (nI (w + 1) - 1 : Int32) = nI w from nI_pred w, zl_eq, ← d2, e2 9 (by decide), h6, show (nI (o + 1) - 1 : Int32) = nI o from nI_pred o, zl_eq, ← d3, e3 5 (by decide), e2 5 (by decide), h3.1, nI_1, zl_eq, ← d4, e11]
  refine ⟨W4, fun hz => ?_, fun hz => ?_, ha.mk2 x4 ?_ ?_ e11 ?_, x4, ?_⟩
  · rw [hd, if_pos (by rw [hz]; rfl)]
  · rw [hd, if_neg (nI_nz hz (by omega))]
  · rw [d4]; exact zps
  · rw [e4 10 (by decide), e3 10 (by decide), e2 10 (by decide)]; exact h4
  · rw [e4 9 (by decide), d3]; exact zps
  · rw [d4]
    show zu W3.1 54 5 (nI (p + 1)) 59 = _
    rw [zu_cell _ _ _ (by decide), d3]
    show zu W2.1 54 9 (nI o) 59 = _
    rw [zu_cell _ _ _ (by decide), d2]
    exact zpc (by decide)
/-- the loop of pieces: & and | -/
theorem rc_jump {W Wa : zM} {B : Nat → Nat} {e p s sR w wR o n i : Nat} {k : zM → Option (Int32 × zM)} (h : KR W B e p sR wR o) (he : e ≤ 240) (hp : p ≤ e) (hi : i ≤ 1) (hs : sg B e p = if i = 0 then 38 else 124) (hc : f_X12_lands 54 (nI i) W = some ((), Wa)) (ha : KR Wa B e p s w o) (hw : w < 260) (hss : s < 260) : ∃ W', f_X12_readsCondition_92 54 k (n + 1) W = k W' ∧ KR W' B e (p + 1) (s + 1) (w + 1) o ∧ KX s w Wa W' ∧ W'.1 60 w = nI (1048576 * (11 + i) + s) ∧ W'.1 59 s = nI (1048576 * (11 + i)) := by
  obtain ⟨W', j1, j2, j3, j4, j5⟩ := r_jump (j := 11 + i) ha hw hss
  refine ⟨W', ?_, j2, j3, j4, j5⟩
  rcases (show i = 0 ∨ i = 1 by omega) with rfl | rfl
  · have hs' : sg B e p = 38 := hs
    rw [f_X12_readsCondition_92, h.h he hp, z_call_eq, hs', if_neg (by decide), h.h he hp, z_call_eq, hs', if_pos rfl, f_X12_readsCondition_180, h.h he hp, z_call_eq, hs', if_neg (by decide), f_X12_readsCondition_195, show (0 : Int32) = nI 0 from rfl, hc, z_call_eq, ha.h he hp, z_call_eq, hs', if_pos rfl, f_X12_readsCondition_215]
    show z_call (f_X12_jumps 54 (nI 11) Wa) _ = _
    rw [j1, z_call_eq]
  · have hs' : sg B e p = 124 := hs
    rw [f_X12_readsCondition_92, h.h he hp, z_call_eq, hs', if_neg (by decide), h.h he hp, z_call_eq, hs', if_neg (by decide), h.h he hp, z_call_eq, hs', if_pos rfl, f_X12_readsCondition_180, h.h he hp, z_call_eq, hs', if_pos rfl, f_X12_readsCondition_195, show (1 : Int32) = nI 1 from rfl, hc, z_call_eq, ha.h he hp, z_call_eq, hs', if_neg (by decide), f_X12_readsCondition_215]
    show z_call (f_X12_jumps 54 (nI 12) Wa) _ = _
    rw [j1, z_call_eq]
theorem rc_bad {W : zM} {B : Nat → Nat} {e p s w sR wR o n : Nat} {k : zM → Option (Int32 × zM)} (h : KR W B e p sR wR o) (he : e ≤ 240) (hp : p ≤ e) (h1 : sg B e p ≠ 41) (h2 : sg B e p ≠ 38) (h3 : sg B e p ≠ 124) : ∃ W', f_X12_readsCondition_92 54 k (n + 1) W = some (0, W') ∧ KX s w W W' ∧ W'.1 54 7 = flt 1 p := by
  refine ⟨(zu W.1 54 7 (flt 1 p), W.2), ?_, KX.r (by simp), zps⟩
  rw [f_X12_readsCondition_92, h.h he hp, z_call_eq, if_neg h1, h.h he hp, z_call_eq, if_neg h2, h.h he hp, z_call_eq, if_neg h3, h.2.2.1.1, show (1 : Int32) = nI 1 from rfl, m_wrN, z_call_eq, if_pos (Or.inl rfl)]
/-- a test opens with ! or ( -/
theorem ts_open {W : zM} {B : Nat → Nat} {e p s w o n i : Nat} (h : KR W B e p s w o) (he : e ≤ 240) (hp : p ≤ e) (hw : w < 260) (ho : o < 6) (hi : i ≤ 1) (hs : sg B e p = if i = 0 then 33 else 40) : ∃ W', f_X12_readsCondition_40 54 (n + 1) W = f_X12_readsCondition_40 54 n W' ∧ KR W' B e (p + 1) s (w + 1) (o + 1) ∧ KX s w W W' ∧ W'.1 60 w = nI (1048576 * (if i = 0 then 10 else 13)) := by
  obtain ⟨W', i1, i2, i3, i4, i5⟩ := r_opens (j := if i = 0 then 10 else 13) h hw ho
  refine ⟨W', ?_, i2, i3, i4⟩
  rcases (show i = 0 ∨ i = 1 by omega) with rfl | rfl
  · have hs' : sg B e p = 33 := hs
    have i1' : f_X12_opens 54 10 W = some (1, W') := i1
    rw [f_X12_readsCondition_40, h.h he hp, z_call_eq, hs', if_pos rfl, f_X12_readsCondition_58, h.h he hp, z_call_eq, hs', if_pos rfl, f_X12_readsCondition_75, i1', z_call_eq, if_neg (by decide)]
  · have hs' : sg B e p = 40 := hs
    have i1' : f_X12_opens 54 13 W = some (1, W') := i1
    rw [f_X12_readsCondition_40, h.h he hp, z_call_eq, hs', if_neg (by decide), h.h he hp, z_call_eq, hs', if_pos rfl, f_X12_readsCondition_58, h.h he hp, z_call_eq, hs', if_neg (by decide), f_X12_readsCondition_75, i1', z_call_eq, if_neg (by decide)]
theorem ts_open6 {W : zM} {B : Nat → Nat} {e p s w n i : Nat} (h : KR W B e p s w 6) (he : e ≤ 240) (hp : p ≤ e) (hi : i ≤ 1) (hs : sg B e p = if i = 0 then 33 else 40) : ∃ W', f_X12_readsCondition_40 54 (n + 1) W = some (0, W') ∧ KX s w W W' ∧ W'.1 54 7 = flt 5 p := by
  obtain ⟨W', i1, i2, i3⟩ := r_opens6 (j := if i = 0 then 10 else 13) h
  refine ⟨W', ?_, i2, i3⟩
  rcases (show i = 0 ∨ i = 1 by omega) with rfl | rfl
  · have hs' : sg B e p = 33 := hs
    have i1' : f_X12_opens 54 10 W = some (0, W') := i1
    rw [f_X12_readsCondition_40, h.h he hp, z_call_eq, hs', if_pos rfl, f_X12_readsCondition_58, h.h he hp, z_call_eq, hs', if_pos rfl, f_X12_readsCondition_75, i1', z_call_eq, if_pos rfl]
  · have hs' : sg B e p = 40 := hs
    have i1' : f_X12_opens 54 13 W = some (0, W') := i1
    rw [f_X12_readsCondition_40, h.h he hp, z_call_eq, hs', if_neg (by decide), h.h he hp, z_call_eq, hs', if_pos rfl, f_X12_readsCondition_58, h.h he hp, z_call_eq, hs', if_neg (by decide), f_X12_readsCondition_75, i1', z_call_eq, if_pos rfl]
