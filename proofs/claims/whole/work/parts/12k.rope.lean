/-! ropes: the reference's rounds -/
theorem ln79 : z_ln SH 79 = 72 := by decide
def RG (M : zM) (g : Nat → Nat) : Prop := ∀ k, k < 72 → M.1 79 k = nI (g k)
theorem RG.set {M : zM} {k v : Nat} {g : Nat → Nat} (h : RG M g) : RG (zu M.1 79 k (nI v), M.2) (va_up g k v) := by
  intro c hc
  show zu M.1 79 k (nI v) 79 c = _
  by_cases e : c = k
  · rw [e, zu_same, va_eq]
  · rw [zu_ne _ _ _ e, va_ne e]; exact h c hc
def LBd (N : Nat → Nat) (b : Nat) (g : Nat → Nat) : Prop := ∀ p, p < 24 → ∀ w, w < 3 → dsp N b p w ≤ g (3 * p + w) ∧ g (3 * p + w) ≤ FR
theorem LBd.le {N : Nat → Nat} {b : Nat} {g : Nat → Nat} (h : LBd N b g) {k : Nat} (hk : k < 72) : g k ≤ FR := by
  have := (h (k / 3) (by omega) (k % 3) (by omega)).2
  rwa [show 3 * (k / 3) + k % 3 = k by omega] at this
theorem bnd_le {u w : Nat} : bnd u w ≤ 100 := by
  unfold bnd
  by_cases h : u = w
  · rw [if_pos h]; omega
  · rw [if_neg h]; omega
theorem m_low_step {M : zM} {N g : Nat → Nat} {b fr r w u a n : Nat} (hS : ST M) (hG : RG M g) (hL : LBd N b g) (hf : fr < 24) (hr : r < 24) (hw : w < 3) (hu : u < 3) : f_X12_lowers_22 54 (nI fr) (nI r) (nI w) (n + 1) (nI a) (nI u) M = if FR ≤ g (3 * fr + u) then f_X12_lowers_22 54 (nI fr) (nI r) (nI w) n (nI a) (nI (u + 1)) M else if g (3 * fr + u) + 1 + bnd u w < g (3 * r + w) then f_X12_lowers_22 54 (nI fr) (nI r) (nI w) n (nI 1) (nI (u + 1)) (zu M.1 79 (3 * r + w) (nI (g (3 * fr + u) + 1 + bnd u w)), M.2) else f_X12_lowers_22 54 (nI fr) (nI r) (nI w) n (nI a) (nI (u + 1)) M := by
  have hF : FR = 1000000 := rfl
  have l1 := hL.le (k := 3 * fr + u) (by omega)
  have l2 := hL.le (k := 3 * r + w) (by omega)
  have hb := bnd_le (u := u) (w := w)
  have k1 : (3 * nI fr + nI u : Int32) = nI (3 * fr + u) := by simp only [lit, nI_mul, nI_add]
  have k2 : (3 * nI r + nI w : Int32) = nI (3 * r + w) := by simp only [lit, nI_mul, nI_add]
  have g1 : M.1 79 (3 * fr + u) = nI (g (3 * fr + u)) := hG _ (by omega)
  have g2 : M.1 79 (3 * r + w) = nI (g (3 * r + w)) := hG _ (by omega)
  have e53 : f_X12_lowers_53 54 (nI fr) (nI r) (nI w) (f_X12_lowers_22 54 (nI fr) (nI r) (nI w) n) (nI a) (nI u) (nI (g (3 * fr + u) + 1)) (nI (bnd u w)) M = if FR ≤ g (3 * fr + u) then f_X12_lowers_22 54 (nI fr) (nI r) (nI w) n (nI a) (nI (u + 1)) M else if g (3 * fr + u) + 1 + bnd u w < g (3 * r + w) then f_X12_lowers_22 54 (nI fr) (nI r) (nI w) n (nI 1) (nI (u + 1)) (zu M.1 79 (3 * r + w) (nI (g (3 * fr + u) + 1 + bnd u w)), M.2) else f_X12_lowers_22 54 (nI fr) (nI r) (nI w) n (nI a) (nI (u + 1)) M := by
    rw [f_X12_lowers_53, zl_eq, (ST.a hS (o := 54) (k := 38) (a := 79) (by decide)), z_rd_eq, ln79, k1, if_pos (by rw [z_ixN (by omega)]; omega), nI_clamp (by omega), g1]
    by_cases q1 : FR ≤ g (3 * fr + u)
    · rw [if_pos (show (1000000 : Int32) ≤ nI (g (3 * fr + u)) from (nI_leI (a := 1000000) (by omega) (by omega)).mpr (by omega)), if_pos q1, f_X12_lowers_106, zl_eq, nI_1]
    · rw [if_neg (show ¬ (1000000 : Int32) ≤ nI (g (3 * fr + u)) from nI_ge (b := 1000000) (by omega) (by omega)), if_neg q1, z_rd_eq, ln79, k2, if_pos (by rw [z_ixN (by omega)]; omega), nI_clamp (by omega), g2, nI_add]
      by_cases q2 : g (3 * fr + u) + 1 + bnd u w < g (3 * r + w)
      · rw [if_pos ((nI_ltI (by omega) (by omega)).mpr q2), if_pos q2, z_rd_eq, ln79, if_pos (by rw [z_ixN (by omega)]; omega), zl_eq, f_X12_lowers_106, zl_eq, nI_1]
        rfl
      · rw [if_neg (nI_nlt (by omega) (by omega)), if_neg q2, f_X12_lowers_106, zl_eq, nI_1]
  rw [f_X12_lowers_22, if_neg (show ¬ (3 : Int32) ≤ nI u from nI_ge (b := 3) hu (by omega)), (ST.a hS (o := 54) (k := 38) (a := 79) (by decide)), z_rd_eq, ln79, k1, if_pos (by rw [z_ixN (by omega)]; omega), nI_clamp (by omega), g1, nI_1, ← e53]
  unfold bnd
  by_cases q : u = w
  · rw [if_pos (by rw [q]), if_pos q]; rfl
  · rw [if_neg (fun h => q ((nI_eq (by omega) (by omega)).mp h)), if_neg q]; rfl
theorem LBd.low {N g : Nat → Nat} {b fr r w u : Nat} (hL : LBd N b g) (he : edg r w fr) (hb : bar N b r = false) (hw : w < 3) (hu : u < 3) (h : g (3 * fr + u) + 1 + bnd u w < g (3 * r + w)) : LBd N b (va_up g (3 * r + w) (g (3 * fr + u) + 1 + bnd u w)) := by
  intro p hp v hv
  by_cases e : 3 * p + v = 3 * r + w
  · obtain rfl : p = r := by omega
    obtain rfl : v = w := by omega
    rw [va_eq]
    have h1 := P1 he hb hu
    have h2 := (hL fr he.2.1 u hu).1
    have h3 := (hL p hp v hv).2
    omega
  · rw [va_ne e]
    exact hL p hp v hv
theorem edg_ne {p w fr : Nat} (h : edg p w fr) : fr ≠ p := by
  obtain ⟨h1, h2, h3⟩ := h
  omega
theorem m_low_lp {N : Nat → Nat} {b fr r w : Nat} (he : edg r w fr) (hb : bar N b r = false) (hw : w < 3) : ∀ m n u a (g : Nat → Nat) (M : zM), u + m = 3 → m < n → ST M → RG M g → LBd N b g → a ≤ 1 → ∃ M' g' a', f_X12_lowers_22 54 (nI fr) (nI r) (nI w) n (nI a) (nI u) M = some (nI a', M') ∧ Fr [79] M M' ∧ RG M' g' ∧ LBd N b g' ∧ a' ≤ 1 ∧ (∀ k, k ≠ 3 * r + w → g' k = g k) ∧ g' (3 * r + w) ≤ g (3 * r + w) ∧ ((a' = a ∧ g' = g) ∨ (a' = 1 ∧ g' (3 * r + w) < g (3 * r + w))) ∧ (∀ v, u ≤ v → v < 3 → g (3 * fr + v) < FR → g' (3 * r + w) ≤ g (3 * fr + v) + 1 + bnd v w) := by
  have hF : FR = 1000000 := rfl
  have hne := edg_ne he
  obtain ⟨hr, hf, _⟩ := id he
  intro m
  induction m with
  | zero =>
    intro n u a g M hu hn hS hG hL ha
    obtain ⟨n, rfl⟩ : ∃ m, n = m + 1 := ⟨n - 1, by omega⟩
    obtain rfl : u = 3 := by omega
    refine ⟨M, g, a, ?_, Fr.rf, hG, hL, ha, fun _ _ => rfl, Nat.le_refl _, Or.inl ⟨rfl, rfl⟩, fun v h1 h2 => by omega⟩
    rw [f_X12_lowers_22, if_pos (by decide), if_pos]
    rcases (show a = 0 ∨ a = 1 by omega) with rfl | rfl
    · exact Or.inl rfl
    · exact Or.inr rfl
  | succ m ih =>
    intro n u a g M hu hn hS hG hL ha
    obtain ⟨n, rfl⟩ : ∃ m, n = m + 1 := ⟨n - 1, by omega⟩
    have e := m_low_step (n := n) (a := a) (u := u) (w := w) hS hG hL hf hr hw (by omega)
    by_cases q1 : FR ≤ g (3 * fr + u)
    · rw [if_pos q1] at e
      obtain ⟨M', g', a', i1, i2, i3, i4, i5, i6, i7, i8, i9⟩ := ih n (u + 1) a g M (by omega) (by omega) hS hG hL ha
      refine ⟨M', g', a', e.trans i1, i2, i3, i4, i5, i6, i7, i8, fun v h1 h2 h3 => ?_⟩
      by_cases z : v = u
      · rw [z] at h3; omega
      · exact i9 v (by omega) h2 h3
    · rw [if_neg q1] at e
      by_cases q2 : g (3 * fr + u) + 1 + bnd u w < g (3 * r + w)
      · rw [if_pos q2] at e
        have f1 : Fr [79] M (zu M.1 79 (3 * r + w) (nI (g (3 * fr + u) + 1 + bnd u w)), M.2) := Fr.zu (by simp)
        obtain ⟨M', g', a', i1, i2, i3, i4, i5, i6, i7, i8, i9⟩ := ih n (u + 1) 1 _ _ (by omega) (by omega) (f1.st hS) (RG.set (k := 3 * r + w) (v := g (3 * fr + u) + 1 + bnd u w) hG) (hL.low he hb hw (by omega) q2) (by omega)
        rw [va_eq] at i7
        refine ⟨M', g', a', e.trans i1, f1.tr i2, i3, i4, i5, fun k hk => by rw [i6 k hk, va_ne hk], by omega, Or.inr ⟨?_, by omega⟩, fun v h1 h2 h3 => ?_⟩
        · rcases i8 with i8 | i8
          · exact i8.1
          · exact i8.1
        · by_cases z : v = u
          · rw [z]; exact i7
          · have := i9 v (by omega) h2
            rw [va_ne (by omega)] at this
            exact this h3
      · rw [if_neg q2] at e
        obtain ⟨M', g', a', i1, i2, i3, i4, i5, i6, i7, i8, i9⟩ := ih n (u + 1) a g M (by omega) (by omega) hS hG hL ha
        refine ⟨M', g', a', e.trans i1, i2, i3, i4, i5, i6, i7, i8, fun v h1 h2 h3 => ?_⟩
        by_cases z : v = u
        · rw [z]; omega
        · exact i9 v (by omega) h2 h3
/-- what one lowering, or many, has done -/
def Lo (g g' : Nat → Nat) (a a' : Nat) : Prop := a' ≤ 1 ∧ (∀ k, g' k ≤ g k) ∧ ((a' = a ∧ g' = g) ∨ (a' = 1 ∧ ∃ k, k < 72 ∧ g' k < g k))
theorem Lo.rf {g : Nat → Nat} {a : Nat} (h : a ≤ 1) : Lo g g a a := ⟨h, fun _ => Nat.le_refl _, Or.inl ⟨rfl, rfl⟩⟩
theorem Lo.tr {g g1 g2 : Nat → Nat} {a a1 a2 : Nat} (h : Lo g g1 a a1) (h2 : Lo g1 g2 a1 a2) : Lo g g2 a a2 := by
  refine ⟨h2.1, fun k => Nat.le_trans (h2.2.1 k) (h.2.1 k), ?_⟩
  rcases h.2.2 with ⟨q1, q2⟩ | ⟨q1, k, hk, q2⟩
  · rcases h2.2.2 with ⟨z1, z2⟩ | ⟨z1, k, hk, z2⟩
    · exact Or.inl ⟨z1.trans q1, z2.trans q2⟩
    · exact Or.inr ⟨z1, k, hk, by rw [← q2]; exact z2⟩
  · refine Or.inr ⟨?_, k, hk, Nat.lt_of_le_of_lt (h2.2.1 k) q2⟩
    rcases h2.2.2 with ⟨z1, z2⟩ | ⟨z1, _⟩
    · rw [z1]; exact q1
    · exact z1
/-- an edge has been lowered from what stood there -/
def Ed (N : Nat → Nat) (b : Nat) (g g' : Nat → Nat) (r w fr : Nat) : Prop := bar N b r = false → ∀ v, v < 3 → g (3 * fr + v) < FR → g' (3 * r + w) ≤ g (3 * fr + v) + 1 + bnd v w
theorem Ed.tr {N : Nat → Nat} {b : Nat} {g0 g g' g'' : Nat → Nat} {r w fr : Nat} (h : Ed N b g g' r w fr) (h0 : ∀ k, g k ≤ g0 k) (h2 : ∀ k, g'' k ≤ g' k) : Ed N b g0 g'' r w fr := by
  intro hb v hv hF
  have a1 := h0 (3 * fr + v)
  have a2 := h2 (3 * r + w)
  have a3 := h hb v hv (by omega)
  omega
theorem m_lowers {M : zM} {N g : Nat → Nat} {b fr r w : Nat} (hS : ST M) (hN : MN M 55 N) (hR : NR N) (hb : b ≤ 99999) (hG : RG M g) (hL : LBd N b g) (he : edg r w fr) : ∃ M' g' v, f_X12_lowers 54 (nI fr) (nI r) (nI w) (nI b) M = some (nI v, M') ∧ Fr [79] M M' ∧ RG M' g' ∧ LBd N b g' ∧ v ≤ 1 ∧ (∀ a, a ≤ 1 → Lo g g' a (if v = 0 then a else 1)) ∧ Ed N b g g' r w fr := by
  obtain ⟨hr, hf, hee⟩ := id he
  have hw : w < 3 := by omega
  have hg := hR.2.2.2.2.1 r hr
  rw [f_X12_lowers, (ST.a hS (o := 54) (k := 0) (a := 55) (by decide)), z_rd_eq, ln55, show (96 + nI r : Int32) = nI (96 + r) by simp only [lit, nI_add], if_pos (by rw [z_ixN (by omega)]; omega), nI_clamp (by omega), hN (96 + r) (by omega)]
  by_cases hbar : bar N b r = true
  · have h1 : b < N (96 + r) := by simpa [bar] using hbar
    rw [if_neg (nI_ge h1 (by omega))]
    refine ⟨M, g, 0, rfl, Fr.rf, hG, hL, by omega, fun a ha => by rw [if_pos rfl]; exact Lo.rf ha, fun h => by rw [h] at hbar; exact absurd hbar (by decide)⟩
  · have h0 : bar N b r = false := by simpa using hbar
    have h1 : ¬ b < N (96 + r) := by simpa [bar] using h0
    rw [if_pos ((nI_leI (by omega) (by omega)).mpr (by omega))]
    obtain ⟨M', g', a', i1, i2, i3, i4, i5, i6, i7, i8, i9⟩ := m_low_lp he h0 hw 3 zF 0 0 g M (by omega) (by unfold zF; omega) hS hG hL (by omega)
    refine ⟨M', g', a', i1, i2, i3, i4, i5, fun a ha => ⟨?_, ?_, ?_⟩, fun _ v hv h3 => i9 v (by omega) hv h3⟩
    · by_cases z : a' = 0
      · rw [if_pos z]; exact ha
      · rw [if_neg z]; omega
    · intro k
      by_cases z : k = 3 * r + w
      · rw [z]; exact i7
      · rw [i6 k z]; exact Nat.le_refl _
    · rcases i8 with ⟨q1, q2⟩ | ⟨q1, q2⟩
      · exact Or.inl ⟨by rw [if_pos q1], q2⟩
      · exact Or.inr ⟨by rw [if_neg (by omega)], 3 * r + w, by omega, q2⟩
/-- all edges into a place -/
def EdA (N : Nat → Nat) (b : Nat) (g g' : Nat → Nat) (r : Nat) : Prop := ∀ w fr, edg r w fr → Ed N b g g' r w fr
theorem m_lAll_step {N g : Nat → Nat} {b r a n : Nat} {M : zM} (hR : NR N) (hb : b ≤ 99999) (hr : r < 24) (ha : a ≤ 1) (hS : ST M) (hN : MN M 55 N) (hG : RG M g) (hL : LBd N b g) : ∃ M' g' a', f_X12_lowersAll_4 54 (nI b) (n + 1) (nI a) (nI r) M = f_X12_lowersAll_4 54 (nI b) n (nI a') (nI (r + 1)) M' ∧ Fr [79] M M' ∧ RG M' g' ∧ LBd N b g' ∧ Lo g g' a a' ∧ EdA N b g g' r := by
  have hd : nI r / 4 = nI (r / 4) := div4 (by omega)
  have hm : nI r - nI r / 4 * 4 = nI (r % 4) := rem4 (by omega)
  -- 75
  have e75 : ∀ a M, f_X12_lowersAll_75 54 (nI b) (f_X12_lowersAll_4 54 (nI b) n) (nI a) (nI r) M = f_X12_lowersAll_4 54 (nI b) n (nI a) (nI (r + 1)) M := by
    intro a M
    rw [f_X12_lowersAll_75, zl_eq, nI_1]
  have e54 : ∀ a (g : Nat → Nat) (M : zM), a ≤ 1 → ST M → MN M 55 N → RG M g → LBd N b g → ∃ M' g' a', f_X12_lowersAll_54 54 (nI b) (f_X12_lowersAll_4 54 (nI b) n) (nI a) (nI r) M = f_X12_lowersAll_4 54 (nI b) n (nI a') (nI (r + 1)) M' ∧ Fr [79] M M' ∧ RG M' g' ∧ LBd N b g' ∧ Lo g g' a a' ∧ (∀ fr, edg r 2 fr → Ed N b g g' r 2 fr) := by
    intro a g M ha hS hN hG hL
    rw [f_X12_lowersAll_54, hm]
    by_cases q : 0 < r % 4
    · rw [if_neg (show ¬ nI (r % 4) ≤ (0 : Int32) from nI_ge (b := r % 4) (a := 0) q (by omega))]
      have he : edg r 2 (r - 1) := ⟨hr, by omega, Or.inr (Or.inr ⟨rfl, q, rfl⟩)⟩
      obtain ⟨M', g', v, i1, i2, i3, i4, i5, i6, i7⟩ := m_lowers hS hN hR hb hG hL he
      refine ⟨M', g', if v = 0 then a else 1, ?_, i2, i3, i4, i6 a ha, ?_⟩
      · rw [show nI r - 1 = nI (r - 1) from nI_sub (b := 1) (by omega), show (2 : Int32) = nI 2 from rfl, i1, z_call_eq]
        rcases (show v = 0 ∨ v = 1 by omega) with rfl | rfl
        · rw [if_pos (show nI 0 = 0 from rfl), if_pos (show 0 = 0 from rfl), e75]
        · rw [if_neg (by decide), if_neg (by decide)]; exact e75 1 M'
      · intro fr hfr
        obtain ⟨_, _, z⟩ := hfr
        obtain rfl : fr = r - 1 := by omega
        exact i7
    · rw [if_pos (show nI (r % 4) ≤ (0 : Int32) from (nI_leI (b := 0) (by omega) (by omega)).mpr (by omega)), e75]
      refine ⟨M, g, a, rfl, Fr.rf, hG, hL, Lo.rf ha, fun fr hfr => ?_⟩
      obtain ⟨_, _, z⟩ := hfr
      omega
  have e32 : ∀ a (g : Nat → Nat) (M : zM), a ≤ 1 → ST M → MN M 55 N → RG M g → LBd N b g → ∃ M' g' a', f_X12_lowersAll_32 54 (nI b) (f_X12_lowersAll_4 54 (nI b) n) (nI a) (nI r) M = f_X12_lowersAll_4 54 (nI b) n (nI a') (nI (r + 1)) M' ∧ Fr [79] M M' ∧ RG M' g' ∧ LBd N b g' ∧ Lo g g' a a' ∧ (∀ fr, edg r 2 fr → Ed N b g g' r 2 fr) ∧ (∀ fr, edg r 1 fr → Ed N b g g' r 1 fr) := by
    intro a g M ha hS hN hG hL
    rw [f_X12_lowersAll_32, hm]
    by_cases q : r % 4 < 3
    · rw [if_neg (show ¬ (3 : Int32) ≤ nI (r % 4) from nI_ge (b := 3) q (by omega))]
      have he : edg r 1 (r + 1) := ⟨hr, by omega, Or.inr (Or.inl ⟨rfl, q, rfl⟩)⟩
      obtain ⟨M1, g1, v, i1, i2, i3, i4, i5, i6, i7⟩ := m_lowers hS hN hR hb hG hL he
      have lo1 := i6 a ha
      obtain ⟨M2, g2, a2, j1, j2, j3, j4, j5, j6⟩ := e54 (if v = 0 then a else 1) g1 M1 lo1.1 (i2.st hS) (hN.to (i2.1 55 (by decide))) i3 i4
      refine ⟨M2, g2, a2, ?_, i2.tr j2, j3, j4, lo1.tr j5, fun fr hfr => (j6 fr hfr).tr lo1.2.1 (fun _ => Nat.le_refl _), ?_⟩
      · rw [nI_1, show (1 : Int32) = nI 1 from rfl, i1, z_call_eq, ← j1]
        rcases (show v = 0 ∨ v = 1 by omega) with rfl | rfl
        · rw [if_pos (show nI 0 = 0 from rfl), if_pos (show 0 = 0 from rfl)]
        · rw [if_neg (by decide), if_neg (by decide)]
      · intro fr hfr
        obtain ⟨_, _, z⟩ := hfr
        obtain rfl : fr = r + 1 := by omega
        exact i7.tr (fun _ => Nat.le_refl _) j5.2.1
    · rw [if_pos (show (3 : Int32) ≤ nI (r % 4) from (nI_leI (a := 3) (by omega) (by omega)).mpr (by omega))]
      obtain ⟨M2, g2, a2, j1, j2, j3, j4, j5, j6⟩ := e54 a g M ha hS hN hG hL
      refine ⟨M2, g2, a2, j1, j2, j3, j4, j5, j6, fun fr hfr => ?_⟩
      obtain ⟨_, _, z⟩ := hfr
      omega
  rw [f_X12_lowersAll_4, if_neg (show ¬ (24 : Int32) ≤ nI r from nI_ge (b := 24) hr (by omega)), hd]
  by_cases q : r < 20
  · rw [if_neg (show ¬ (5 : Int32) ≤ nI (r / 4) from nI_ge (b := 5) (by omega) (by omega))]
    have he : edg r 0 (r + 4) := ⟨hr, by omega, Or.inl ⟨rfl, q, rfl⟩⟩
    obtain ⟨M1, g1, v, i1, i2, i3, i4, i5, i6, i7⟩ := m_lowers hS hN hR hb hG hL he
    have lo1 := i6 a ha
    obtain ⟨M2, g2, a2, j1, j2, j3, j4, j5, j6, j7⟩ := e32 (if v = 0 then a else 1) g1 M1 lo1.1 (i2.st hS) (hN.to (i2.1 55 (by decide))) i3 i4
    refine ⟨M2, g2, a2, ?_, i2.tr j2, j3, j4, lo1.tr j5, ?_⟩
    · rw [show nI r + 4 = nI (r + 4) by simp only [lit, nI_add], show (0 : Int32) = nI 0 from rfl, i1, z_call_eq, ← j1]
      rcases (show v = 0 ∨ v = 1 by omega) with rfl | rfl
      · rw [if_pos (show nI 0 = nI 0 from rfl), if_pos (show 0 = 0 from rfl)]
      · rw [if_neg (by decide), if_neg (by decide)]; rfl
    · intro w fr hfr
      rcases (show w = 0 ∨ w = 1 ∨ w = 2 by obtain ⟨_, _, z⟩ := hfr; omega) with rfl | rfl | rfl
      · obtain ⟨_, _, z⟩ := hfr
        obtain rfl : fr = r + 4 := by omega
        exact i7.tr (fun _ => Nat.le_refl _) j5.2.1
      · exact (j7 fr hfr).tr lo1.2.1 (fun _ => Nat.le_refl _)
      · exact (j6 fr hfr).tr lo1.2.1 (fun _ => Nat.le_refl _)
  · rw [if_pos (show (5 : Int32) ≤ nI (r / 4) from (nI_leI (a := 5) (by omega) (by omega)).mpr (by omega))]
    obtain ⟨M2, g2, a2, j1, j2, j3, j4, j5, j6, j7⟩ := e32 a g M ha hS hN hG hL
    refine ⟨M2, g2, a2, j1, j2, j3, j4, j5, ?_⟩
    intro w fr hfr
    rcases (show w = 0 ∨ w = 1 ∨ w = 2 by obtain ⟨_, _, z⟩ := hfr; omega) with rfl | rfl | rfl
    · obtain ⟨_, _, z⟩ := hfr
      omega
    · exact j7 fr hfr
    · exact j6 fr hfr
theorem m_lAll_lp {N : Nat → Nat} {b : Nat} (hR : NR N) (hb : b ≤ 99999) : ∀ m n r a (g : Nat → Nat) (M : zM), r + m = 24 → m < n → a ≤ 1 → ST M → MN M 55 N → RG M g → LBd N b g → ∃ M' g' a', f_X12_lowersAll_4 54 (nI b) n (nI a) (nI r) M = some (nI a', M') ∧ Fr [79] M M' ∧ RG M' g' ∧ LBd N b g' ∧ Lo g g' a a' ∧ (∀ p, r ≤ p → p < 24 → EdA N b g g' p) := by
  intro m
  induction m with
  | zero =>
    intro n r a g M hr hn ha hS hN hG hL
    obtain ⟨n, rfl⟩ : ∃ m, n = m + 1 := ⟨n - 1, by omega⟩
    obtain rfl : r = 24 := by omega
    refine ⟨M, g, a, ?_, Fr.rf, hG, hL, Lo.rf ha, fun p h1 h2 => by omega⟩
    rw [f_X12_lowersAll_4, if_pos (by decide), if_pos]
    rcases (show a = 0 ∨ a = 1 by omega) with rfl | rfl
    · exact Or.inl rfl
    · exact Or.inr rfl
  | succ m ih =>
    intro n r a g M hr hn ha hS hN hG hL
    obtain ⟨n, rfl⟩ : ∃ m, n = m + 1 := ⟨n - 1, by omega⟩
    obtain ⟨M1, g1, a1, i1, i2, i3, i4, i5, i6⟩ := m_lAll_step (n := n) hR hb (show r < 24 by omega) ha hS hN hG hL
    obtain ⟨M2, g2, a2, j1, j2, j3, j4, j5, j6⟩ := ih n (r + 1) a1 g1 M1 (by omega) (by omega) i5.1 (i2.st hS) (hN.to (i2.1 55 (by decide))) i3 i4
    refine ⟨M2, g2, a2, i1.trans j1, i2.tr j2, j3, j4, i5.tr j5, fun p h1 h2 => ?_⟩
    by_cases z : p = r
    · rw [z]
      exact fun w fr hfr => (i6 w fr hfr).tr (fun _ => Nat.le_refl _) j5.2.1
    · exact fun w fr hfr => (j6 p (by omega) h2 w fr hfr).tr i5.2.1 (fun _ => Nat.le_refl _)
/-- the places within so many steps are right -/
def EXk (N : Nat → Nat) (b : Nat) (g : Nat → Nat) (k : Nat) : Prop := (∀ p, 20 ≤ p → p < 24 → bar N b p = false → g (3 * p) ≤ 1) ∧ ∀ p, p < 24 → ∀ w, w < 3 → dsp N b p w < FR → dsp N b p w % 100 ≤ k → g (3 * p + w) = dsp N b p w
theorem dsp_pl {N : Nat → Nat} {b p w : Nat} (h : p < 24) (hw : w < 3) (hf : dsp N b p w < FR) : (20 ≤ p ∧ w = 0 ∧ dsp N b p w = 1) ∨ ∃ fr u, edg p w fr ∧ u < 3 ∧ dsp N b fr u < FR ∧ dsp N b p w = dsp N b fr u + 1 + bnd u w ∧ dsp N b p w % 100 = dsp N b fr u % 100 + 1 := by
  have hF : FR = 1000000 := rfl
  rcases P4 h hw hf with h1 | ⟨fr, u, h1, h2, h3⟩
  · exact Or.inl h1
  · refine Or.inr ⟨fr, u, h1, h2, by omega, h3, ?_⟩
    have q := Qp_dsp (N := N) (b := b) h1.2.1 h2
    unfold Qp at q
    unfold bnd at h3
    by_cases z : u = w
    · rw [if_pos z] at h3; omega
    · rw [if_neg z] at h3; omega
theorem EXk.st {N g g' : Nat → Nat} {b k : Nat} (h : EXk N b g k) (hL : LBd N b g') (hlo : ∀ k, g' k ≤ g k) (hE : ∀ p, p < 24 → EdA N b g g' p) : EXk N b g' (k + 1) := by
  refine ⟨fun p h1 h2 h3 => Nat.le_trans (hlo _) (h.1 p h1 h2 h3), fun p hp w hw hf hk => ?_⟩
  have hb := dsp_b hp hw hf
  have hl := (hL p hp w hw).1
  rcases dsp_pl hp hw hf with ⟨h1, rfl, h3⟩ | ⟨fr, u, h1, h2, h3, h4, h5⟩
  · have := h.1 p h1 hp hb
    have := hlo (3 * p)
    rw [Nat.add_zero] at *
    omega
  · have e := h.2 fr h1.2.1 u h2 h3 (by omega)
    have := hE p hp w fr h1 hb u h2 (by omega)
    omega
theorem EXk.all {N g : Nat → Nat} {b : Nat} (h : EXk N b g 25) (hL : LBd N b g) : ∀ p, p < 24 → ∀ w, w < 3 → g (3 * p + w) = dsp N b p w := by
  intro p hp w hw
  obtain ⟨l1, l2⟩ := hL p hp w hw
  by_cases q : dsp N b p w < FR
  · refine h.2 p hp w hw q ?_
    have := Qp_dsp (N := N) (b := b) hp hw
    unfold Qp at this
    omega
  · have := dsp_le (N := N) (b := b) hp hw
    omega
theorem EXk.fix {N g : Nat → Nat} {b : Nat} (hL : LBd N b g) (hE : ∀ p, p < 24 → EdA N b g g p) : ∀ m k, k + m = 25 → EXk N b g k → EXk N b g 25 := by
  intro m
  induction m with
  | zero => intro k hk h; rw [show k = 25 by omega] at h; exact h
  | succ m ih => intro k hk h; exact ih (k + 1) (by omega) (h.st hL (fun _ => Nat.le_refl _) hE)
theorem EXk.z {N g : Nat → Nat} {b : Nat} (h : ∀ p, 20 ≤ p → p < 24 → bar N b p = false → g (3 * p) ≤ 1) : EXk N b g 0 := by
  refine ⟨h, fun p hp w hw hf hk => ?_⟩
  rcases dsp_pl hp hw hf with ⟨h1, h2, h3⟩ | ⟨fr, u, h1, h2, h3, h4, h5⟩
  · omega
  · omega
