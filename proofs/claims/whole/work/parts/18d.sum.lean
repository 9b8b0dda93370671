/-! reading a law: the reference's sums, step by step -/
noncomputable def RFx (m n : Nat) (base : Int32) (W : zM) : Option (Int32 × zM) := z_call (f_X12_readsFactor_0 54 m W) (fun v W1 => if v = 0 then some (0, W1) else f_X12_readsSum_14 54 n base W1)
theorem MX.kx {s w : Nat} {W W' : zM} (h : MX [54] [5, 7, 8] W W') : KX s w W W' := by
  refine ⟨fun c hc => h.1.1 c (by simp at hc ⊢; exact hc.1), fun j hj => h.2 j (by simp at hj ⊢; omega), fun k _ => by rw [h.1.1 59 (by decide)], fun k _ => by rw [h.1.1 60 (by decide)], h.1.2⟩
theorem rf_open {W : zM} {B : Nat → Nat} {e p s w o m n : Nat} {b : Int32} (h : KR W B e p s w o) (he : e ≤ 240) (hp : p ≤ e) (hw : w < 260) (ho : o < 6) (hs : sg B e p = 91) : ∃ W', RFx (m + 1) n b W = RFx m n b W' ∧ KR W' B e (p + 1) s (w + 1) (o + 1) ∧ KX s w W W' ∧ W'.1 60 w = nI (1048576 * 14) := by
  obtain ⟨W', i1, i2, i3, i4, i5⟩ := r_opens (j := 14) h hw ho
  refine ⟨W', ?_, i2, i3, i4⟩
  unfold RFx
  rw [f_X12_readsFactor_0, h.h he hp, z_call_eq, hs, if_pos rfl, show (14 : Int32) = nI 14 from rfl, i1, z_call_eq, if_neg (by decide)]
theorem rf_open6 {W : zM} {B : Nat → Nat} {e p s w m n : Nat} {b : Int32} (h : KR W B e p s w 6) (he : e ≤ 240) (hp : p ≤ e) (hs : sg B e p = 91) : ∃ W', RFx (m + 1) n b W = some (0, W') ∧ KX s w W W' ∧ W'.1 54 7 = flt 5 p := by
  obtain ⟨W', i1, i2, i3⟩ := r_opens6 (j := 14) h
  refine ⟨W', ?_, i2, i3⟩
  unfold RFx
  rw [f_X12_readsFactor_0, h.h he hp, z_call_eq, hs, if_pos rfl, show (14 : Int32) = nI 14 from rfl, i1, z_call_eq, if_pos rfl, z_call_eq, if_pos rfl]
theorem KR.d {W : zM} {B : Nat → Nat} {e p s w o : Nat} (h : KR W B e p s w o) (he : e ≤ 240) (hp : p ≤ e) : f_X12_isDigit 54 W = some (if isd B e p then 1 else 0, W) := m_isDigit h.1 h.2.1 h.2.2.1 (by omega) (by omega)
theorem m_number {W : zM} {B : Nat → Nat} {e p s w o : Nat} (h : KR W B e p s w o) (he : e ≤ 240) (hp : p ≤ e) (hd : isd B e p = true) : f_X12_readsNumber 54 W = f_X12_readsAmount 54 (nI 5) W := by
  rw [f_X12_readsNumber, f_X12_readsAmount, zl_eq, zl_eq, h.d he hp, zl_eq, z_call_eq, if_pos hd, if_neg (by decide), zl_eq, rn_am]
  rfl
theorem rf_num {W : zM} {B : Nat → Nat} {e p s w o m n : Nat} {b : Int32} (h : KR W B e p s w o) (he : e ≤ 240) (hp : p ≤ e) (hss : s < 260) (hs : sg B e p ≠ 91) (hd : isd B e p = true) : (nmF B e 5 p = 0 → ∃ W', RFx (m + 1) n b W = f_X12_readsSum_14 54 n b W' ∧ KR W' B e (p + rl B e 5 p) (s + 1) w o ∧ KX s w W W' ∧ W'.1 59 s = nI (nmN B e 5 p)) ∧ (nmF B e 5 p ≠ 0 → ∃ W', RFx (m + 1) n b W = some (0, W') ∧ KX s w W W' ∧ W'.1 54 7 = nmF B e 5 p) := by
  obtain ⟨W1, i1, i2, i3, i4⟩ := m_amount (d := 5) h.1 h.2.1 h.2.2.1 (by omega) hp (by omega) (by omega)
  have x1 : KX s w W W1 := i2.kx
  have head : RFx (m + 1) n b W = z_call (z_call (f_X12_readsAmount 54 (nI 5) W) fun v_24 M_25 => (if v_24 = 0 then some ((0 : Int32), M_25) else z_call (f_X12_notes 54 0 (M_25.1 54 8) M_25) fun v_28 M_29 => some ((1 : Int32), M_29))) (fun v W1 => if v = 0 then some (0, W1) else f_X12_readsSum_14 54 n b W1) := by
    unfold RFx
    rw [f_X12_readsFactor_0, h.h he hp, z_call_eq, if_neg hs, h.d he hp, z_call_eq, if_pos hd, if_neg (by decide), m_number h he hp hd]
  constructor
  · intro h0
    obtain ⟨j1, j2⟩ := i3 h0
    have k1 : KR W1 B e (p + rl B e 5 p) s w o := h.mk2 x1 j1.1 ((i2.2 10 (by decide)).trans h.2.2.2.1) ((i2.2 11 (by decide)).trans h.2.2.2.2.1) ((i2.2 9 (by decide)).trans h.2.2.2.2.2)
    obtain ⟨W2, n1, n2, n3, n4, n5⟩ := r_notes (a := 0) (v := nmN B e 5 p) k1 hss
    refine ⟨W2, ?_, n2, x1.tr n3 (Nat.le_refl _) (Nat.le_refl _), by rw [n4, Nat.mul_zero, Nat.zero_add]⟩
    rw [head, i1, z_call_eq, if_pos h0, if_neg (by decide), j2, show (0 : Int32) = nI 0 from rfl, n1, z_call_eq, z_call_eq, if_neg (by decide)]
  · intro h0
    refine ⟨W1, ?_, x1, i4 h0⟩
    rw [head, i1, z_call_eq, if_neg h0, if_pos rfl, z_call_eq, if_pos rfl]
theorem rf_let {W : zM} {B : Nat → Nat} {e p s w o m n i : Nat} {b : Int32} (h : KR W B e p s w o) (he : e ≤ 240) (hp : p ≤ e) (hss : s < 260) (hs : sg B e p ≠ 91) (hd : ¬ isd B e p = true) (hi : i < 8) (hl : ∀ M, f_X12_factOf (sg B e p) M = some (nI i, M)) : ∃ W', RFx (m + 1) n b W = f_X12_readsSum_14 54 n b W' ∧ KR W' B e (p + 1) (s + 1) w o ∧ KX s w W W' ∧ W'.1 59 s = nI (1048576 + i) := by
  obtain ⟨W1, n1, n2, n3, n4, n5⟩ := r_notes (a := 1) (v := i) h hss
  have x2 : KX s w W (zu W1.1 54 5 (nI (p + 1)), W1.2) := n3.tr (KX.r (s := s) (w := w) (by simp)) (Nat.le_refl _) (Nat.le_refl _)
  refine ⟨(zu W1.1 54 5 (nI (p + 1)), W1.2), ?_, h.mk2 x2 zps ((zpn (by decide)).trans n2.2.2.2.1) ((zpn (by decide)).trans n2.2.2.2.2.1) ((zpn (by decide)).trans n2.2.2.2.2.2), x2, ?_⟩
  · unfold RFx
    rw [f_X12_readsFactor_0, h.h he hp, z_call_eq, if_neg hs, h.d he hp, z_call_eq, if_neg hd, if_pos rfl, h.h he hp, z_call_eq, hl, z_call_eq, if_neg (nI_m1 (by omega)), show (1 : Int32) = nI 1 from rfl, n1, z_call_eq, n2.2.2.1.1, zl_eq, nI_add, z_call_eq, if_neg (by decide)]
  · show zu W1.1 54 5 (nI (p + 1)) 59 s = _
    rw [zu_cell _ _ _ (by decide), n4, Nat.mul_one]
theorem rf_bad {W : zM} {B : Nat → Nat} {e p s w o m n : Nat} {b : Int32} (h : KR W B e p s w o) (he : e ≤ 240) (hp : p ≤ e) (hs : sg B e p ≠ 91) (hd : ¬ isd B e p = true) (hl : ∀ M, f_X12_factOf (sg B e p) M = some (-1, M)) : ∃ W', RFx (m + 1) n b W = some (0, W') ∧ KX s w W W' ∧ W'.1 54 7 = flt 1 p := by
  obtain ⟨W', i1, i2, i3⟩ := r_wrong (c := 1) h
  refine ⟨W', ?_, i2, i3⟩
  unfold RFx
  rw [f_X12_readsFactor_0, h.h he hp, z_call_eq, if_neg hs, h.d he hp, z_call_eq, if_neg hd, if_pos rfl, h.h he hp, z_call_eq, hl, z_call_eq, if_pos rfl, show (1 : Int32) = nI 1 from rfl, i1, z_call_eq, if_pos (Or.inl rfl), z_call_eq, if_pos rfl]
/-- the loop meets a sign of a sum -/
theorem rs_op {W Wa : zM} {B : Nat → Nat} {e p s sR w wR o n i : Nat} {b : Int32} (h : KR W B e p sR wR o) (he : e ≤ 240) (hp : p ≤ e) (hi : i < 5) (hs : ∀ M, f_X12_sumSign (sg B e p) M = some (nI (2 + i), M)) (hc : f_X12_closesSums 54 (if 2 ≤ i then 0 else 1) W = some ((), Wa)) (ha : KR Wa B e p s w o) (hw : w < 260) : ∃ W', f_X12_readsSum_14 54 (n + 1) b W = RFx zF n b W' ∧ KR W' B e (p + 1) s (w + 1) o ∧ KX s w Wa W' ∧ W'.1 60 w = nI (1048576 * (2 + i)) ∧ W'.1 59 = Wa.1 59 := by
  obtain ⟨h1, h2, h3, h4, h5, h6⟩ := id ha
  obtain ⟨W2, d2⟩ : ∃ W2 : zM, W2 = (zu Wa.1 60 w (nI (1048576 * (2 + i))), Wa.2) := ⟨_, rfl⟩
  obtain ⟨W3, d3⟩ : ∃ W3 : zM, W3 = (zu W2.1 54 11 (nI (w + 1)), W2.2) := ⟨_, rfl⟩
  obtain ⟨W4, d4⟩ : ∃ W4 : zM, W4 = (zu W3.1 54 5 (nI (p + 1)), W3.2) := ⟨_, rfl⟩
  have x2 : KX s w Wa W2 := by rw [d2]; exact KX.wt (Nat.le_refl w)
  have x3 : KX s w Wa W3 := x2.tr (by rw [d3]; exact KX.r (s := s) (w := w) (by simp)) (Nat.le_refl _) (Nat.le_refl _)
  have x4 : KX s w Wa W4 := x3.tr (by rw [d4]; exact KX.r (s := s) (w := w) (by simp)) (Nat.le_refl _) (Nat.le_refl _)
  have c54 : W2.1 54 = Wa.1 54 := by rw [d2]; exact zpc (by decide)
  have e4 : ∀ i, i ≠ 5 → W4.1 54 i = W3.1 54 i := fun i hi => by rw [d4]; exact zpn hi
  have e3 : ∀ i, i ≠ 11 → W3.1 54 i = W2.1 54 i := fun i hi => by rw [d3]; exact zpn hi
  have g38 : ∀ x, f_X12_closesSums 54 x W = some ((), Wa) → f_X12_readsSum_38 54 (f_X12_readsSum_14 54 n) b (nI (2 + i)) 54 x W = RFx zF n b W4 := by
    intro x hx
    rw [f_X12_readsSum_38, hx, z_call_eq, (ST.a h1 (o := 54) (k := 15) (a := 60) (by decide)), z_rd_eq, h5, ln60, if_pos (by rw [z_ixN (by omega)]; omega), zl_eq, nI_clamp (by omega), show (1048576 * nI (2 + i) : Int32) = nI (1048576 * (2 + i)) by simp only [lit, nI_mul], ← d2, zl_eq, c54, h5, nI_1, ← d3, zl_eq, e3 5 (by decide), c54, h3.1, nI_1, ← d4]
    rfl
  refine ⟨W4, ?_, ha.mk2 x4 ?_ ?_ ?_ ?_, x4, ?_, ?_⟩
  · rw [f_X12_readsSum_14, h.h he hp, z_call_eq, hs, z_call_eq, if_neg (nI_m1 (by omega))]
    by_cases h2i : 2 ≤ i
    · rw [if_pos h2i] at hc
      rw [if_pos (show (4 : Int32) ≤ nI (2 + i) from nI_le (a := 4) (by omega) (by omega)), g38 0 hc]
    · rw [if_neg h2i] at hc
      rw [if_neg (show ¬ (4 : Int32) ≤ nI (2 + i) from nI_ge (b := 4) (by omega) (by omega)), g38 1 hc]
  · rw [d4]; exact zps
  · rw [e4 10 (by decide), e3 10 (by decide), c54]; exact h4
  · rw [e4 11 (by decide), d3]; exact zps
  · rw [e4 9 (by decide), e3 9 (by decide), c54]; exact h6
  · rw [d4]
    show zu W3.1 54 5 (nI (p + 1)) 60 w = _
    rw [zu_cell _ _ _ (by decide), d3]
    show zu W2.1 54 11 (nI (w + 1)) 60 w = _
    rw [zu_cell _ _ _ (by decide), d2]
    exact zps
  · rw [d4]
    show zu W3.1 54 5 (nI (p + 1)) 59 = _
    rw [zu_cell _ _ _ (by decide), d3]
    show zu W2.1 54 11 (nI (w + 1)) 59 = _
    rw [zu_cell _ _ _ (by decide), d2]
    exact zpc (by decide)
/-- the loop meets a ] that closes -/
theorem rs_brk {W Wb : zM} {B : Nat → Nat} {e p s sR w wR o n base : Nat} (h : KR W B e p sR wR (o + 1)) (he : e ≤ 240) (hp : p ≤ e) (hs : sg B e p = 93) (hwR : wR ≤ 260) (hk : w < wR) (h14 : W.1 60 w = nI (1048576 * 14)) (hb : base ≤ w) (hc : f_X12_closesSums 54 1 W = some ((), Wb)) (ha : KR Wb B e p s (w + 1) (o + 1)) : ∃ W', f_X12_readsSum_14 54 (n + 1) (nI base) W = f_X12_readsSum_14 54 n (nI base) W' ∧ KR W' B e (p + 1) s w o ∧ KX s w Wb W' ∧ W'.1 59 = Wb.1 59 := by
  obtain ⟨h1, h2, h3, h4, h5, h6⟩ := id ha
  obtain ⟨W2, d2⟩ : ∃ W2 : zM, W2 = (zu Wb.1 54 11 (nI w), Wb.2) := ⟨_, rfl⟩
  obtain ⟨W3, d3⟩ : ∃ W3 : zM, W3 = (zu W2.1 54 9 (nI o), W2.2) := ⟨_, rfl⟩
  obtain ⟨W4, d4⟩ : ∃ W4 : zM, W4 = (zu W3.1 54 5 (nI (p + 1)), W3.2) := ⟨_, rfl⟩
  have x2 : KX s w Wb W2 := by rw [d2]; exact KX.r (by simp)
  have x3 : KX s w Wb W3 := x2.tr (by rw [d3]; exact KX.r (s := s) (w := w) (by simp)) (Nat.le_refl _) (Nat.le_refl _)
  have x4 : KX s w Wb W4 := x3.tr (by rw [d4]; exact KX.r (s := s) (w := w) (by simp)) (Nat.le_refl _) (Nat.le_refl _)
  have e4 : ∀ i, i ≠ 5 → W4.1 54 i = W3.1 54 i := fun i hi => by rw [d4]; exact zpn hi
  have e3 : ∀ i, i ≠ 9 → W3.1 54 i = W2.1 54 i := fun i hi => by rw [d3]; exact zpn hi
  have e2 : ∀ i, i ≠ 11 → W2.1 54 i = Wb.1 54 i := fun i hi => by rw [d2]; exact zpn hi
  refine ⟨W4, ?_, ha.mk2 x4 ?_ ?_ ?_ ?_, x4, ?_⟩
  · rw [f_X12_readsSum_14, h.h he hp, z_call_eq, hs, show f_X12_sumSign 93 W = some (-1, W) from rfl, z_call_eq, if_pos rfl, h.h he hp, z_call_eq, hs, if_pos rfl, f_X12_hasOpenSum, r_hos1 h hwR hk h14 (w - base) zF base (by omega) (by unfold zF; omega), z_call_eq, if_neg (by decide), hc, z_call_eq, h5, show (nI (w + 1) - 1 : Int32) = nI w from nI_pred w, zl_eq, ← d2, e2 9 (by decide), h6, show (nI (o + 1) - 1 : Int32) = nI o from nI_pred o, zl_eq, ← d3, e3 5 (by decide), e2 5 (by decide), h3.1, nI_1, zl_eq, ← d4]
    rfl
  · rw [d4]; exact zps
  · rw [e4 10 (by decide), e3 10 (by decide), e2 10 (by decide)]; exact h4
  · rw [e4 11 (by decide), e3 11 (by decide), d2]; exact zps
  · rw [e4 9 (by decide), d3]; exact zps
  · rw [d4]
    show zu W3.1 54 5 (nI (p + 1)) 59 = _
    rw [zu_cell _ _ _ (by decide), d3]
    show zu W2.1 54 9 (nI o) 59 = _
    rw [zu_cell _ _ _ (by decide), d2]
    exact zpc (by decide)
/-- the loop ends where a ] is wanted -/
theorem rs_brkF {W : zM} {B : Nat → Nat} {e p sR w wR o n base s : Nat} (h : KR W B e p sR wR o) (he : e ≤ 240) (hp : p ≤ e) (hs : ∀ M, f_X12_sumSign (sg B e p) M = some (-1, M)) (hs2 : sg B e p ≠ 93) (hwR : wR ≤ 260) (hk : w < wR) (h14 : W.1 60 w = nI (1048576 * 14)) (hb : base ≤ w) : ∃ W', f_X12_readsSum_14 54 (n + 1) (nI base) W = some (0, W') ∧ KX s w W W' ∧ W'.1 54 7 = flt 1 p := by
  obtain ⟨W', i1, i2, i3⟩ := r_wrong (c := 1) h
  refine ⟨W', ?_, ⟨i2.1, i2.2.1, fun k _ => ?_, fun k hk => ?_, i2.2.2.2.2⟩, i3⟩
  · rw [f_X12_readsSum_14, h.h he hp, z_call_eq, hs, z_call_eq, if_pos rfl, h.h he hp, z_call_eq, if_neg hs2, f_X12_readsSum_138, f_X12_hasOpenSum, r_hos1 h hwR hk h14 (w - base) zF base (by omega) (by unfold zF; omega), z_call_eq, if_neg (by decide), show (1 : Int32) = nI 1 from rfl, i1, z_call_eq, if_pos (Or.inl rfl)]
  · have : W' = (zu W.1 54 7 (flt 1 p), W.2) := by
      have := i1
      rw [h.2.2.1.1, m_wrN] at this
      exact ((Prod.mk.inj (Option.some.inj this)).2).symm
    rw [this]
    show zu W.1 54 7 (flt 1 p) 59 k = _
    rw [zu_cell _ _ _ (by decide)]
  · exact i2.2.2.2.1 k (by omega)
/-- the loop ends where nothing is open -/
theorem rs_end {W Wb : zM} {B : Nat → Nat} {e p sR w wR o n : Nat} (h : KR W B e p sR wR o) (he : e ≤ 240) (hp : p ≤ e) (hs : ∀ M, f_X12_sumSign (sg B e p) M = some (-1, M)) (hwR : wR ≤ 260) (hw : w ≤ wR) (hS : SW W w wR) (hc : f_X12_closesSums 54 1 W = some ((), Wb)) : f_X12_readsSum_14 54 (n + 1) (nI w) W = some (1, Wb) := by
  have h0 : f_X12_hasOpenSum 54 (nI w) W = some (0, W) := r_hos0 h hwR (wR - w) zF w (by omega) (by unfold zF; omega) hS
  have h138 : f_X12_readsSum_138 54 (nI w) W = some (1, Wb) := by rw [f_X12_readsSum_138, h0, z_call_eq, if_pos rfl, hc, z_call_eq]
  rw [f_X12_readsSum_14, h.h he hp, z_call_eq, hs, z_call_eq, if_pos rfl, h.h he hp, z_call_eq]
  by_cases h93 : sg B e p = 93
  · rw [if_pos h93, h0, z_call_eq, if_pos rfl, h138]
  · rw [if_neg h93, h138]
