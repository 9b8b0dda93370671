/-! reading a law: single steps of the reference -/
theorem zps {I : Nat → Nat → Int32} {c j : Nat} {v : Int32} {R : zR × zL} : ((zu I c j v, R) : zM).1 c j = v := zu_same I c j v
theorem zpn {I : Nat → Nat → Int32} {c j j' : Nat} {v : Int32} {R : zR × zL} (h : j' ≠ j) : ((zu I c j v, R) : zM).1 c j' = I c j' := zu_ne I c v h
theorem zpc {I : Nat → Nat → Int32} {c c' j : Nat} {v : Int32} {R : zR × zL} (h : c' ≠ c) : ((zu I c j v, R) : zM).1 c' = I c' := zu_cell I j v h
def KR (W : zM) (B : Nat → Nat) (e p s w o : Nat) : Prop := ST W ∧ TB W B ∧ MR W e p ∧ W.1 54 10 = nI s ∧ W.1 54 11 = nI w ∧ W.1 54 9 = nI o
def KX (s w : Nat) (W W' : zM) : Prop := (∀ c, c ∉ [54, 59, 60] → W'.1 c = W.1 c) ∧ (∀ j, j ∉ [5, 7, 8, 9, 10, 11] → W'.1 54 j = W.1 54 j) ∧ (∀ k, k < s → W'.1 59 k = W.1 59 k) ∧ (∀ k, k < w → W'.1 60 k = W.1 60 k) ∧ W'.2 = W.2
theorem KX.rf {s w : Nat} {W : zM} : KX s w W W := ⟨fun _ _ => rfl, fun _ _ => rfl, fun _ _ => rfl, fun _ _ => rfl, rfl⟩
theorem KX.tr {s w s1 w1 : Nat} {W W1 W2 : zM} (h1 : KX s w W W1) (h2 : KX s1 w1 W1 W2) (hs : s ≤ s1) (hw : w ≤ w1) : KX s w W W2 := by
  obtain ⟨a1, a2, a3, a4, a5⟩ := h1
  obtain ⟨b1, b2, b3, b4, b5⟩ := h2
  exact ⟨fun c h => (b1 c h).trans (a1 c h), fun j h => (b2 j h).trans (a2 j h), fun k h => (b3 k (by omega)).trans (a3 k h), fun k h => (b4 k (by omega)).trans (a4 k h), b5.trans a5⟩
theorem KX.st {s w : Nat} {W W' : zM} (h : KX s w W W') (hS : ST W) : ST W' := hS.to (by rw [h.2.2.2.2])
theorem KX.tb {s w : Nat} {W W' : zM} {B : Nat → Nat} (h : KX s w W W') (hB : TB W B) : TB W' B := hB.to (h.1 2 (by decide)) (h.1 58 (by decide))
theorem KX.r {s w j : Nat} {W : zM} {v : Int32} (h : j ∈ [5, 7, 8, 9, 10, 11]) : KX s w W (zu W.1 54 j v, W.2) := by
  refine ⟨fun c hc => zpc (by simp at hc; exact hc.1), fun i hi => zpn (fun e => hi (by rw [e]; exact h)), fun k _ => ?_, fun k _ => ?_, rfl⟩
  · show zu W.1 54 j v 59 k = _
    rw [zu_cell _ _ _ (by decide)]
  · show zu W.1 54 j v 60 k = _
    rw [zu_cell _ _ _ (by decide)]
theorem KX.sd {s w k : Nat} {W : zM} {v : Int32} (h : s ≤ k) : KX s w W (zu W.1 59 k v, W.2) := by
  refine ⟨fun c hc => zpc (by simp at hc; exact hc.2.1), fun i hi => ?_, fun j hj => ?_, fun j hj => ?_, rfl⟩
  · show zu W.1 59 k v 54 i = _
    rw [zu_cell _ _ _ (by decide)]
  · show zu W.1 59 k v 59 j = _
    rw [zu_ne _ _ _ (by omega)]
  · show zu W.1 59 k v 60 j = _
    rw [zu_cell _ _ _ (by decide)]
theorem KX.wt {s w k : Nat} {W : zM} {v : Int32} (h : w ≤ k) : KX s w W (zu W.1 60 k v, W.2) := by
  refine ⟨fun c hc => zpc (by simp at hc; exact hc.2.2), fun i hi => ?_, fun j hj => ?_, fun j hj => ?_, rfl⟩
  · show zu W.1 60 k v 54 i = _
    rw [zu_cell _ _ _ (by decide)]
  · show zu W.1 60 k v 59 j = _
    rw [zu_cell _ _ _ (by decide)]
  · show zu W.1 60 k v 60 j = _
    rw [zu_ne _ _ _ (by omega)]
theorem KR.mk2 {W W' : zM} {B : Nat → Nat} {e p s w o p' s' w' o' a b : Nat} (h : KR W B e p s w o) (hX : KX a b W W') (h5 : W'.1 54 5 = nI p') (h10 : W'.1 54 10 = nI s') (h11 : W'.1 54 11 = nI w') (h9 : W'.1 54 9 = nI o') : KR W' B e p' s' w' o' := ⟨hX.st h.1, hX.tb h.2.1, ⟨h5, (hX.2.1 6 (by decide)).trans h.2.2.1.2⟩, h10, h11, h9⟩
theorem ln59 : z_ln SH 59 = 260 := by decide
theorem ln60 : z_ln SH 60 = 260 := by decide
theorem KR.h {W : zM} {B : Nat → Nat} {e p s w o : Nat} (h : KR W B e p s w o) (he : e ≤ 240) (hp : p ≤ e) : f_X12_here 54 W = some (sg B e p, W) := m_here h.1 h.2.1 h.2.2.1 (by omega) (by omega)
theorem r_wrong {W : zM} {B : Nat → Nat} {e p s w o c : Nat} (h : KR W B e p s w o) : ∃ W', f_X12_wrongAt 54 (nI c) (W.1 54 5) W = some (0, W') ∧ KX s w W W' ∧ W'.1 54 7 = flt c p := by
  refine ⟨(zu W.1 54 7 (flt c p), W.2), ?_, KX.r (by simp), zps⟩
  rw [h.2.2.1.1]
  exact m_wrN
theorem r_notes {W : zM} {B : Nat → Nat} {e p s w o a v : Nat} (h : KR W B e p s w o) (hs : s < 260) : ∃ W', f_X12_notes 54 (nI a) (nI v) W = some ((), W') ∧ KR W' B e p (s + 1) w o ∧ KX s w W W' ∧ W'.1 59 s = nI (1048576 * a + v) ∧ W'.1 60 = W.1 60 := by
  obtain ⟨h1, h2, h3, h4, h5, h6⟩ := id h
  have e10 : zu W.1 59 s (nI (1048576 * a + v)) 54 10 = nI s := by rw [zu_cell _ _ _ (by decide)]; exact h4
  have x : KX s w W (zu (zu W.1 59 s (nI (1048576 * a + v))) 54 10 (nI (s + 1)), W.2) := (KX.sd (Nat.le_refl _)).tr (KX.r (s := s) (w := w) (W := (zu W.1 59 s (nI (1048576 * a + v)), W.2)) (by simp)) (by omega) (by omega)
  refine ⟨(zu (zu W.1 59 s (nI (1048576 * a + v))) 54 10 (nI (s + 1)), W.2), ?_, h.mk2 x ?_ ?_ ?_ ?_, x, ?_, ?_⟩
  · rw [f_X12_notes, (ST.a h1 (o := 54) (k := 14) (a := 59) (by decide)), z_rd_eq, h4, ln59, if_pos (by rw [z_ixN (by omega)]; omega), zl_eq, zl_eq, nI_clamp (by omega), show (1048576 * nI a + nI v : Int32) = nI (1048576 * a + v) by simp only [lit, nI_mul, nI_add]]
    show some ((), (zu (zu W.1 59 s (nI (1048576 * a + v))) 54 10 (zu W.1 59 s (nI (1048576 * a + v)) 54 10 + 1), W.2)) = _
    rw [e10, nI_1]
  · show zu (zu W.1 59 s (nI (1048576 * a + v))) 54 10 (nI (s + 1)) 54 5 = _
    rw [zu_ne _ _ _ (by decide), zu_cell _ _ _ (by decide)]; exact h3.1
  · exact zps
  · show zu (zu W.1 59 s (nI (1048576 * a + v))) 54 10 (nI (s + 1)) 54 11 = _
    rw [zu_ne _ _ _ (by decide), zu_cell _ _ _ (by decide)]; exact h5
  · show zu (zu W.1 59 s (nI (1048576 * a + v))) 54 10 (nI (s + 1)) 54 9 = _
    rw [zu_ne _ _ _ (by decide), zu_cell _ _ _ (by decide)]; exact h6
  · show zu (zu W.1 59 s (nI (1048576 * a + v))) 54 10 (nI (s + 1)) 59 s = _
    rw [zu_cell _ _ _ (by decide), zu_same]
  · show zu (zu W.1 59 s (nI (1048576 * a + v))) 54 10 (nI (s + 1)) 60 = _
    rw [zu_cell _ _ _ (by decide), zu_cell _ _ _ (by decide)]
/-- what waits on top -/
def tpo (W : zM) (w j : Nat) : Prop := 1 ≤ w ∧ ∃ x, x < 2 ^ 31 ∧ W.1 60 (w - 1) = nI x ∧ x / 1048576 = j
theorem tpo.to {W W' : zM} {w j s v : Nat} (h : tpo W w j) (hX : KX s v W W') (hv : w ≤ v) : tpo W' w j := by
  obtain ⟨h1, x, h2, h3, h4⟩ := h
  exact ⟨h1, x, h2, (hX.2.2.2.1 _ (by omega)).trans h3, h4⟩
theorem tpo.mk {W : zM} {w j v : Nat} (h : W.1 60 w = nI (1048576 * j + v)) (hj : j ≤ 14) (hv : v < 1048576) : tpo W (w + 1) j := ⟨by omega, 1048576 * j + v, by omega, h, by omega⟩
theorem tpo.mk0 {W : zM} {w j : Nat} (h : W.1 60 w = nI (1048576 * j)) (hj : j ≤ 14) : tpo W (w + 1) j := tpo.mk (v := 0) h hj (by omega)
theorem r_wt {W : zM} {B : Nat → Nat} {e p s w o j : Nat} (h : KR W B e p s w o) (hw : w ≤ 260) (ht : tpo W w j) : f_X12_waitTop 54 W = some (nI j, W) := by
  obtain ⟨h1, x, h2, h3, h4⟩ := ht
  rw [f_X12_waitTop, h.2.2.2.2.1, if_neg (nI_ne0 (by omega) (by omega)), (ST.a h.1 (o := 54) (k := 15) (a := 60) (by decide)), z_rd_eq, show (nI w - 1 : Int32) = nI (w - 1) from nI_sub (b := 1) h1, ln60, if_pos (by rw [z_ixN (by omega)]; omega), nI_clamp (by omega), h3, show (nI x / 1048576 : Int32) = nI (x / 1048576) from nI_div (d := 1048576) h2 (by omega) (by omega), h4]
theorem r_wt0 {W : zM} {B : Nat → Nat} {e p s o : Nat} (h : KR W B e p s 0 o) : f_X12_waitTop 54 W = some (-1, W) := by
  rw [f_X12_waitTop, h.2.2.2.2.1, if_pos (by decide)]
def NS (W : zM) (w : Nat) : Prop := w = 0 ∨ ∃ j, tpo W w j ∧ 7 ≤ j ∧ j ≤ 14
def NM (W : zM) (w : Nat) : Prop := w = 0 ∨ ∃ j, tpo W w j ∧ ((7 ≤ j ∧ j ≤ 14) ∨ j = 2 ∨ j = 3)
theorem NS.m {W : zM} {w : Nat} (h : NS W w) : NM W w := by
  rcases h with h | ⟨j, h1, h2⟩
  · exact Or.inl h
  · exact Or.inr ⟨j, h1, Or.inl h2⟩
theorem NS.to {W W' : zM} {w s v : Nat} (h : NS W w) (hX : KX s v W W') (hv : w ≤ v) : NS W' w := by
  rcases h with h | ⟨j, h1, h2⟩
  · exact Or.inl h
  · exact Or.inr ⟨j, h1.to hX hv, h2⟩
theorem NM.to {W W' : zM} {w s v : Nat} (h : NM W w) (hX : KX s v W W') (hv : w ≤ v) : NM W' w := by
  rcases h with h | ⟨j, h1, h2⟩
  · exact Or.inl h
  · exact Or.inr ⟨j, h1.to hX hv, h2⟩
theorem r_stop {W : zM} {B : Nat → Nat} {e p s w o n : Nat} {x : Int32} (h : KR W B e p s w o) (hw : w ≤ 260) (ht : NS W w) : f_X12_closesSums_0 54 x (n + 1) W = some ((), W) := by
  rcases ht with rfl | ⟨j, ht, j7, j14⟩
  · rw [f_X12_closesSums_0, r_wt0 h, z_call_eq, if_pos (by decide), f_X12_closesSums_17]
    by_cases hx : x = 0
    · rw [if_pos hx]
    · rw [if_neg hx, r_wt0 h, z_call_eq, if_neg (by decide), r_wt0 h, z_call_eq, if_neg (by decide)]
  · have g : ∀ i, i < 2 ^ 31 → i ≠ j → ¬ nI j = nI i := fun i hi hne hh => hne ((nI_eq (by omega) hi).mp hh).symm
    rw [f_X12_closesSums_0, r_wt h hw ht, z_call_eq, if_neg (show ¬ nI j < (4 : Int32) from nI_nlt (b := 4) (by omega) (by omega)), r_wt h hw ht, z_call_eq, if_neg (show ¬ nI j ≤ (6 : Int32) from nI_ge (a := 6) (by omega) (by omega)), f_X12_closesSums_17]
    by_cases hx : x = 0
    · rw [if_pos hx]
    · rw [if_neg hx, r_wt h hw ht, z_call_eq, if_neg (show ¬ nI j = (2 : Int32) from g 2 (by omega) (by omega)), r_wt h hw ht, z_call_eq, if_neg (show ¬ nI j = (3 : Int32) from g 3 (by omega) (by omega))]
theorem r_stop0 {W : zM} {B : Nat → Nat} {e p s w o n : Nat} (h : KR W B e p s w o) (hw : w ≤ 260) (ht : NM W w) : f_X12_closesSums_0 54 0 (n + 1) W = some ((), W) := by
  rcases ht with h0 | ⟨j, ht, h7 | hj⟩
  · exact r_stop h hw (Or.inl h0)
  · exact r_stop h hw (Or.inr ⟨j, ht, h7⟩)
  · rw [f_X12_closesSums_0, r_wt h hw ht, z_call_eq, if_pos (show nI j < (4 : Int32) from (nI_ltI (b := 4) (by omega) (by omega)).mpr (by omega)), f_X12_closesSums_17, if_pos rfl]
/-- one waiting sum is closed -/
theorem r_close {W : zM} {B : Nat → Nat} {e p s w o j : Nat} (h : KR W B e p s (w + 1) o) (hw : w < 260) (hs : s < 260) (ht : tpo W (w + 1) j) (hj : 2 ≤ j ∧ j ≤ 6) : ∃ W', (∀ x n, (4 ≤ j ∨ x = 1) → f_X12_closesSums_0 54 x (n + 1) W = f_X12_closesSums_0 54 x n W') ∧ KR W' B e p (s + 1) w o ∧ KX s w W W' ∧ W'.1 59 s = nI (1048576 * j) := by
  obtain ⟨W1, i1, i2, i3, i4, i5⟩ := r_notes (a := j) (v := 0) h hs
  have x2 : KX (s + 1) w W1 (zu W1.1 54 11 (nI w), W1.2) := KX.r (by simp)
  have x3 : KX s w W (zu W1.1 54 11 (nI w), W1.2) := (KX.rf.tr i3 (Nat.le_refl s) (show w ≤ w + 1 by omega)).tr x2 (by omega) (Nat.le_refl _)
  have h37 : ∀ x k, f_X12_closesSums_37 54 x k W = k (zu W1.1 54 11 (nI w), W1.2) := by
    intro x k
    rw [f_X12_closesSums_37, r_wt h (by omega) ht, z_call_eq, show (0 : Int32) = nI 0 from rfl, i1, z_call_eq, i2.2.2.2.2.1, show (nI (w + 1) - 1 : Int32) = nI w from nI_pred w, zl_eq]
  refine ⟨(zu W1.1 54 11 (nI w), W1.2), ?_, h.mk2 x3 ?_ ?_ ?_ ?_, x3, ?_⟩
  · intro x n hx
    have g : ∀ i, i < 2 ^ 31 → i ≠ j → ¬ nI j = nI i := fun i hi hne hh => hne ((nI_eq (by omega) hi).mp hh).symm
    rw [f_X12_closesSums_0, r_wt h (by omega) ht, z_call_eq]
    by_cases h4 : 4 ≤ j
    · rw [if_neg (show ¬ nI j < (4 : Int32) from nI_nlt (b := 4) h4 (by omega)), r_wt h (by omega) ht, z_call_eq, if_pos (show nI j ≤ (6 : Int32) from nI_le (b := 6) (by omega) (by omega)), h37]
    · have hx1 : x = 1 := by
        rcases hx with hx | hx
        · exact absurd hx h4
        · exact hx
      rw [if_pos (show nI j < (4 : Int32) from (nI_ltI (b := 4) (by omega) (by omega)).mpr (by omega)), f_X12_closesSums_17, hx1, if_neg (by decide), r_wt h (by omega) ht, z_call_eq]
      rcases (show j = 2 ∨ j = 3 by omega) with rfl | rfl
      · rw [if_pos (by decide), h37]
      · rw [if_neg (by decide), r_wt h (by omega) ht, z_call_eq, if_pos (by decide), h37]
  · show zu W1.1 54 11 (nI w) 54 5 = _
    rw [zu_ne _ _ _ (by decide)]; exact i2.2.2.1.1
  · show zu W1.1 54 11 (nI w) 54 10 = _
    rw [zu_ne _ _ _ (by decide)]; exact i2.2.2.2.1
  · exact zps
  · show zu W1.1 54 11 (nI w) 54 9 = _
    rw [zu_ne _ _ _ (by decide)]; exact i2.2.2.2.2.2
  · show zu W1.1 54 11 (nI w) 59 s = _
    rw [zu_cell _ _ _ (by decide)]; exact i4
theorem r_opens {W : zM} {B : Nat → Nat} {e p s w o j : Nat} (h : KR W B e p s w o) (hw : w < 260) (ho : o < 6) : ∃ W', f_X12_opens 54 (nI j) W = some (1, W') ∧ KR W' B e (p + 1) s (w + 1) (o + 1) ∧ KX s w W W' ∧ W'.1 60 w = nI (1048576 * j) ∧ W'.1 59 = W.1 59 := by
  obtain ⟨h1, h2, h3, h4, h5, h6⟩ := id h
  obtain ⟨W1, d1⟩ : ∃ W1 : zM, W1 = (zu W.1 54 9 (nI (o + 1)), W.2) := ⟨_, rfl⟩
  obtain ⟨W2, d2⟩ : ∃ W2 : zM, W2 = (zu W1.1 60 w (nI (1048576 * j)), W1.2) := ⟨_, rfl⟩
  obtain ⟨W3, d3⟩ : ∃ W3 : zM, W3 = (zu W2.1 54 11 (nI (w + 1)), W2.2) := ⟨_, rfl⟩
  obtain ⟨W4, d4⟩ : ∃ W4 : zM, W4 = (zu W3.1 54 5 (nI (p + 1)), W3.2) := ⟨_, rfl⟩
  have x1 : KX s w W W1 := by rw [d1]; exact KX.r (by simp)
  have x2 : KX s w W W2 := x1.tr (by rw [d2]; exact KX.wt (Nat.le_refl w)) (Nat.le_refl s) (Nat.le_refl _)
  have x3 : KX s w W W3 := x2.tr (by rw [d3]; exact KX.r (s := s) (w := w) (by simp)) (Nat.le_refl _) (Nat.le_refl _)
  have x4 : KX s w W W4 := x3.tr (by rw [d4]; exact KX.r (s := s) (w := w) (by simp)) (Nat.le_refl _) (Nat.le_refl _)
  have c54 : W2.1 54 = W1.1 54 := by rw [d2]; exact zpc (by decide)
  have e4 : ∀ i, i ≠ 5 → W4.1 54 i = W3.1 54 i := fun i hi => by rw [d4]; exact zpn hi
  have e3 : ∀ i, i ≠ 11 → W3.1 54 i = W2.1 54 i := fun i hi => by rw [d3]; exact zpn hi
  have e1 : ∀ i, i ≠ 9 → W1.1 54 i = W.1 54 i := fun i hi => by rw [d1]; exact zpn hi
  refine ⟨W4, ?_, h.mk2 x4 ?_ ?_ ?_ ?_, x4, ?_, ?_⟩
  · have s1 := x1.st h1
    rw [f_X12_opens, h6, if_neg (show ¬ nI o = (6 : Int32) from fun hh => by have := (nI_eq (b := 6) (by omega) (by omega)).mp hh; omega), nI_1, zl_eq, ← d1, (ST.a s1 (o := 54) (k := 15) (a := 60) (by decide)), z_rd_eq, e1 11 (by decide), h5, ln60, if_pos (by rw [z_ixN (by omega)]; omega), zl_eq, nI_clamp (by omega), show (1048576 * nI j : Int32) = nI (1048576 * j) by simp only [lit, nI_mul], ← d2, zl_eq, c54, e1 11 (by decide), h5, nI_1, ← d3, zl_eq, e3 5 (by decide), c54, e1 5 (by decide), h3.1, nI_1, ← d4]
  · rw [d4]; exact zps
  · rw [e4 10 (by decide), e3 10 (by decide), c54, e1 10 (by decide)]; exact h4
  · rw [e4 11 (by decide), d3]; exact zps
  · rw [e4 9 (by decide), e3 9 (by decide), c54, d1]; exact zps
  · rw [d4]
    show zu W3.1 54 5 (nI (p + 1)) 60 w = _
    rw [zu_cell _ _ _ (by decide), d3]
    show zu W2.1 54 11 (nI (w + 1)) 60 w = _
    rw [zu_cell _ _ _ (by decide), d2]
    exact zps
  · rw [d4]
    show zu W3.1 54 5 (nI (p + 1)) 59 = _
    rw [zu_cell _ _ _ (by decide), d3]
    show zu W2.1 54 11 (nI (w + 1)) 59 = _
    rw [zu_cell _ _ _ (by decide), d2]
    show zu W1.1 60 w (nI (1048576 * j)) 59 = _
    rw [zu_cell _ _ _ (by decide), d1]
    exact zpc (by decide)
theorem r_opens6 {W : zM} {B : Nat → Nat} {e p s w j : Nat} (h : KR W B e p s w 6) : ∃ W', f_X12_opens 54 (nI j) W = some (0, W') ∧ KX s w W W' ∧ W'.1 54 7 = flt 5 p := by
  obtain ⟨W', i1, i2, i3⟩ := r_wrong (c := 5) h
  refine ⟨W', ?_, i2, i3⟩
  rw [f_X12_opens, h.2.2.2.2.2, if_pos (by decide), show (5 : Int32) = nI 5 from rfl, i1, z_call_eq, if_pos (Or.inl rfl)]
/-- is a [ open? -/
theorem r_hos1 {W : zM} {B : Nat → Nat} {e p s w o k0 : Nat} (h : KR W B e p s w o) (hw : w ≤ 260) (hk : k0 < w) (h0 : W.1 60 k0 = nI (1048576 * 14)) : ∀ m n b, b + m = k0 → m < n → f_X12_hasOpenSum_2 54 n (nI b) W = some (1, W) := by
  intro m
  induction m with
  | zero =>
    intro n b hb hn
    obtain ⟨n, rfl⟩ : ∃ z, n = z + 1 := ⟨n - 1, by omega⟩
    obtain rfl : b = k0 := by omega
    rw [f_X12_hasOpenSum_2, h.2.2.2.2.1, if_neg (nI_ge hk (by omega)), (ST.a h.1 (o := 54) (k := 15) (a := 60) (by decide)), z_rd_eq, ln60, if_pos (by rw [z_ixN (by omega)]; omega), nI_clamp (by omega), h0, if_pos (by decide)]
  | succ m ih =>
    intro n b hb hn
    obtain ⟨n, rfl⟩ : ∃ z, n = z + 1 := ⟨n - 1, by omega⟩
    rw [f_X12_hasOpenSum_2, h.2.2.2.2.1, if_neg (nI_ge (by omega) (by omega)), (ST.a h.1 (o := 54) (k := 15) (a := 60) (by decide)), z_rd_eq, ln60, if_pos (by rw [z_ixN (by omega)]; omega), nI_clamp (by omega)]
    by_cases z : W.1 60 b / 1048576 = 14
    · rw [if_pos z]
    · rw [if_neg z, zl_eq, nI_1]
      exact ih n (b + 1) (by omega) (by omega)
/-- only sums wait from b on -/
def SW (W : zM) (b w : Nat) : Prop := ∀ k, b ≤ k → k < w → ∃ j, 2 ≤ j ∧ j ≤ 6 ∧ W.1 60 k = nI (1048576 * j)
theorem r_hos0 {W : zM} {B : Nat → Nat} {e p s w o : Nat} (h : KR W B e p s w o) (hw : w ≤ 260) : ∀ m n b, b + m = w → m < n → SW W b w → f_X12_hasOpenSum_2 54 n (nI b) W = some (0, W) := by
  intro m
  induction m with
  | zero =>
    intro n b hb hn hS
    obtain ⟨n, rfl⟩ : ∃ z, n = z + 1 := ⟨n - 1, by omega⟩
    obtain rfl : b = w := by omega
    rw [f_X12_hasOpenSum_2, h.2.2.2.2.1, if_pos (nI_le (Nat.le_refl _) (by omega))]
  | succ m ih =>
    intro n b hb hn hS
    obtain ⟨n, rfl⟩ : ∃ z, n = z + 1 := ⟨n - 1, by omega⟩
    obtain ⟨j, j1, j2, j3⟩ := hS b (Nat.le_refl _) (by omega)
    have d : 1048576 * j / 1048576 = j := Nat.mul_div_cancel_left j (by omega)
    rw [f_X12_hasOpenSum_2, h.2.2.2.2.1, if_neg (nI_ge (by omega) (by omega)), (ST.a h.1 (o := 54) (k := 15) (a := 60) (by decide)), z_rd_eq, ln60, if_pos (by rw [z_ixN (by omega)]; omega), nI_clamp (by omega), j3, show (nI (1048576 * j) / 1048576 : Int32) = nI j from (nI_div (d := 1048576) (by omega) (by omega) (by omega)).trans (by rw [d]), if_neg (show ¬ nI j = (14 : Int32) from fun hh => by have := (nI_eq (b := 14) (by omega) (by omega)).mp hh; omega), zl_eq, nI_1]
    exact ih n (b + 1) (by omega) (by omega) (fun k a b => hS k (by omega) b)
