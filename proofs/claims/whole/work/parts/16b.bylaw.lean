/-! what the rules say: the reference -/
theorem ln66 : z_ln SH 66 = 16 := by decide
theorem ln67 : z_ln SH 67 = 16 := by decide
theorem ln68 : z_ln SH 68 = 16 := by decide
theorem ln69 : z_ln SH 69 = 16 := by decide
theorem LM.to {M M' : zM} {nr : Nat} {L : Nat → Nat → Int32} {l : List Nat} (h : LM M L nr) (hF : Fr l M M') (hl : ∀ c ∈ [54, 65, 66, 67, 68, 69], c ∉ l) : LM M' L nr := by
  refine ⟨fun i hi => ?_, by rw [hF.c (hl 54 (by decide))]; exact h.2⟩
  rw [← h.1 i hi]
  refine hF.c (hl _ ?_)
  rcases (show i = 0 ∨ i = 1 ∨ i = 2 ∨ i = 3 ∨ i = 4 by omega) with rfl | rfl | rfl | rfl | rfl <;> decide
def FC (M : zM) (fc : Nat → Int32) : Prop := ∀ j, j < 8 → M.1 71 j = fc j
theorem m_test {M : zM} {nr j : Nat} {L : Nat → Nat → Int32} {fc : Nat → Int32} (hS : ST M) (hM : LM M L nr) (hU : LU L nr) (hfc : FC M fc) (hj : j < nr) : ∃ M', f_X12_comesTo 54 (L 3 j) (L 4 j) M = some ((evR (L 0) fc (tn (L 3 j)) (tn (L 4 j))).getD 0, M') ∧ Fr [70] M M' := by
  obtain ⟨h2, sg, va, nc, h1, h5⟩ := hU
  obtain ⟨a, b, c, ea, eb, ec, k1, k2, k3, hE, T, t1, t2, t3⟩ := h5 j hj
  rw [eb, ec, tn_nI (by omega), tn_nI (by omega)]
  exact m_comesTo (by omega) k2 t1 t3 (Or.inr t2) hS (hM.1 0 (by omega)) hfc
theorem m_amo {M : zM} {nr j : Nat} {L : Nat → Nat → Int32} {fc : Nat → Int32} (hS : ST M) (hM : LM M L nr) (hU : LU L nr) (hfc : FC M fc) (hj : j < nr) (hk : L 1 j ≠ 120) : ∃ M', f_X12_comesTo 54 (L 2 j) (L 3 j) M = some ((evR (L 0) fc (tn (L 2 j)) (tn (L 3 j))).getD 0, M') ∧ Fr [70] M M' := by
  obtain ⟨h2, sg, va, nc, h1, h5⟩ := hU
  obtain ⟨a, b, c, ea, eb, ec, k1, k2, k3, hE, hC⟩ := h5 j hj
  obtain ⟨T, t1, t2, t3⟩ := hE hk
  rw [ea, eb, tn_nI (by omega), tn_nI (by omega)]
  exact m_comesTo (by omega) k1 t1 (fun k x y => Or.inl (t3 k x y)) (Or.inl t2) hS (hM.1 0 (by omega)) hfc
theorem getD_one {o : Option Int32} : o.getD 0 = 1 ↔ o = some 1 := by
  cases o with
  | none => simp
  | some v => simp
theorem m_by_lp {nr : Nat} {L : Nat → Nat → Int32} {fc : Nat → Int32} {kd hi : Int32} (hU : LU L nr) (hk : kd ≠ 120) : ∀ m n j (M : zM), j + m = nr → m < n → ST M → LM M L nr → FC M fc → ∃ M', f_X12_byLaw_2 54 kd hi n (nI j) M = some (byL L fc kd hi m j, M') ∧ Fr [70] M M' := by
  have h16 := hU.1
  intro m
  induction m with
  | zero =>
    intro n j M hj hn hS hM hfc
    obtain ⟨n, rfl⟩ : ∃ x, n = x + 1 := ⟨n - 1, by omega⟩
    obtain rfl : j = nr := by omega
    exact ⟨M, by rw [f_X12_byLaw_2, hM.2, if_pos (nI_le (Nat.le_refl _) (by omega))]; rfl, Fr.rf⟩
  | succ m ih =>
    intro n j M hj hn hS hM hfc
    obtain ⟨n, rfl⟩ : ∃ x, n = x + 1 := ⟨n - 1, by omega⟩
    have e1 : M.1 66 = L 1 := hM.1 1 (by omega)
    have e2 : M.1 67 = L 2 := hM.1 2 (by omega)
    have e3 : M.1 68 = L 3 := hM.1 3 (by omega)
    have e4 : M.1 69 = L 4 := hM.1 4 (by omega)
    rw [f_X12_byLaw_2, hM.2, if_neg (nI_ge (by omega) (by omega)), (ST.a hS (o := 54) (k := 21) (a := 66) (by decide)), z_rd_eq, ln66, if_pos (by rw [z_ixN (by omega)]; omega), nI_clamp (by omega), e1, byL]
    by_cases hkd : L 1 j = kd
    · rw [if_pos hkd, if_pos hkd, (ST.a hS (o := 54) (k := 23) (a := 68) (by decide)), z_rd_eq, ln68, if_pos (by rw [z_ixN (by omega)]; omega), (ST.a hS (o := 54) (k := 24) (a := 69) (by decide)), z_rd_eq, ln69, if_pos (by rw [z_ixN (by omega)]; omega), e3, e4]
      obtain ⟨M1, i1, i2⟩ := m_test hS hM hU hfc (show j < nr by omega)
      rw [i1, z_call_eq]
      have s1 := i2.st hS
      have m1 := hM.to i2 (by decide)
      have f1 : FC M1 fc := fun j hj => by rw [i2.c (c := 71) (by decide)]; exact hfc j hj
      by_cases z : evR (L 0) fc (tn (L 3 j)) (tn (L 4 j)) = some 1
      · obtain ⟨M2, j1, j2⟩ := m_amo s1 m1 hU f1 (show j < nr by omega) (by rw [hkd]; exact hk)
        rw [if_pos (getD_one.mpr z), if_pos z, (ST.a s1 (o := 54) (k := 22) (a := 67) (by decide)), z_rd_eq, ln67, if_pos (by rw [z_ixN (by omega)]; omega), (ST.a s1 (o := 54) (k := 23) (a := 68) (by decide)), z_rd_eq, ln68, if_pos (by rw [z_ixN (by omega)]; omega), i2.c (c := 67) (by decide), i2.c (c := 68) (by decide), e2, e3, j1, z_call_eq]
        refine ⟨M2, ?_, i2.tr j2⟩
        unfold amt
        by_cases y : 0 ≤ (evR (L 0) fc (tn (L 2 j)) (tn (L 3 j))).getD 0
        · rw [if_pos y, if_pos y]
          by_cases x : (evR (L 0) fc (tn (L 2 j)) (tn (L 3 j))).getD 0 ≤ hi
          · rw [if_pos x, if_pos x]
          · rw [if_neg x, if_neg x]
        · rw [if_neg y, if_neg y]
      · obtain ⟨M', u1, u2⟩ := ih n (j + 1) M1 (by omega) (by omega) s1 m1 f1
        refine ⟨M', ?_, i2.tr u2⟩
        rw [if_neg (fun h => z (getD_one.mp h)), if_neg z, f_X12_byLaw_83, zl_eq, nI_1]
        exact u1
    · rw [if_neg hkd, if_neg hkd, f_X12_byLaw_83, zl_eq, nI_1]
      exact ih n (j + 1) M (by omega) (by omega) hS hM hfc
theorem m_ha_lp {nr : Nat} {L : Nat → Nat → Int32} {fc : Nat → Int32} (hU : LU L nr) : ∀ m n j (M : zM), j + m = nr → m < n → ST M → LM M L nr → FC M fc → ∃ M', f_X12_holdsAny_2 54 120 n (nI j) M = some (if fgL L fc m j then 1 else 0, M') ∧ Fr [70] M M' := by
  have h16 := hU.1
  intro m
  induction m with
  | zero =>
    intro n j M hj hn hS hM hfc
    obtain ⟨n, rfl⟩ : ∃ x, n = x + 1 := ⟨n - 1, by omega⟩
    obtain rfl : j = nr := by omega
    exact ⟨M, by rw [f_X12_holdsAny_2, hM.2, if_pos (nI_le (Nat.le_refl _) (by omega))]; rfl, Fr.rf⟩
  | succ m ih =>
    intro n j M hj hn hS hM hfc
    obtain ⟨n, rfl⟩ : ∃ x, n = x + 1 := ⟨n - 1, by omega⟩
    have e1 : M.1 66 = L 1 := hM.1 1 (by omega)
    have e3 : M.1 68 = L 3 := hM.1 3 (by omega)
    have e4 : M.1 69 = L 4 := hM.1 4 (by omega)
    rw [f_X12_holdsAny_2, hM.2, if_neg (nI_ge (by omega) (by omega)), (ST.a hS (o := 54) (k := 21) (a := 66) (by decide)), z_rd_eq, ln66, if_pos (by rw [z_ixN (by omega)]; omega), nI_clamp (by omega), e1, fgL]
    by_cases hkd : L 1 j = 120
    · rw [if_pos hkd, if_pos hkd, (ST.a hS (o := 54) (k := 23) (a := 68) (by decide)), z_rd_eq, ln68, if_pos (by rw [z_ixN (by omega)]; omega), (ST.a hS (o := 54) (k := 24) (a := 69) (by decide)), z_rd_eq, ln69, if_pos (by rw [z_ixN (by omega)]; omega), e3, e4]
      obtain ⟨M1, i1, i2⟩ := m_test hS hM hU hfc (show j < nr by omega)
      rw [i1, z_call_eq]
      by_cases z : evR (L 0) fc (tn (L 3 j)) (tn (L 4 j)) = some 1
      · rw [if_pos (getD_one.mpr z), if_pos z]
        exact ⟨M1, rfl, i2⟩
      · obtain ⟨M', u1, u2⟩ := ih n (j + 1) M1 (by omega) (by omega) (i2.st hS) (hM.to i2 (by decide)) (fun j hj => by rw [i2.c (c := 71) (by decide)]; exact hfc j hj)
        refine ⟨M', ?_, i2.tr u2⟩
        rw [if_neg (fun h => z (getD_one.mp h)), if_neg z, f_X12_holdsAny_42, zl_eq, nI_1]
        exact u1
    · rw [if_neg hkd, if_neg hkd, f_X12_holdsAny_42, zl_eq, nI_1]
      exact ih n (j + 1) M (by omega) (by omega) hS hM hfc
theorem m_byLaw {M : zM} {nr : Nat} {L : Nat → Nat → Int32} {fc : Nat → Int32} {kd hi : Int32} (hU : LU L nr) (hk : kd ≠ 120) (hS : ST M) (hM : LM M L nr) (hfc : FC M fc) : ∃ M', f_X12_byLaw 54 kd hi M = some (byL L fc kd hi nr 0, M') ∧ Fr [70] M M' := m_by_lp hU hk nr zF 0 M (by omega) (by have := hU.1; unfold zF; omega) hS hM hfc
theorem m_holdsAny {M : zM} {nr : Nat} {L : Nat → Nat → Int32} {fc : Nat → Int32} (hU : LU L nr) (hS : ST M) (hM : LM M L nr) (hfc : FC M fc) : ∃ M', f_X12_holdsAny 54 120 M = some (if fgL L fc nr 0 then 1 else 0, M') ∧ Fr [70] M M' := m_ha_lp hU nr zF 0 M (by omega) (by have := hU.1; unfold zF; omega) hS hM hfc
/-- the reference lays the facts -/
theorem m_asks {M : zM} {N : Nat → Nat} {r p m : Nat} (hS : ST M) (hN : MN M 55 N) (hR : NR N) (hr : r < 24) (hp : p < 24) : ∃ M', f_X12_asks 54 (nI r) (nI p) (nI m) M = some ((), M') ∧ Fr [71] M M' ∧ FC M' (fcs N r p m) := by
  have hh := hR.2.2.2.2.2.2.2.1
  have w : ∀ (M0 : zM) j (v : Int32), Fr [71] M0 (zu M0.1 71 j v, M0.2) := fun M0 j v => Fr.zu (by simp)
  obtain ⟨M1, d1⟩ : ∃ M1 : zM, M1 = (zu M.1 71 0 (nI r), M.2) := ⟨_, rfl⟩
  obtain ⟨M2, d2⟩ : ∃ M2 : zM, M2 = (zu M1.1 71 1 (nI (N (24 + r))), M1.2) := ⟨_, rfl⟩
  obtain ⟨M3, d3⟩ : ∃ M3 : zM, M3 = (zu M2.1 71 2 (nI p), M2.2) := ⟨_, rfl⟩
  obtain ⟨M4, d4⟩ : ∃ M4 : zM, M4 = (zu M3.1 71 3 (nI (p / 4)), M3.2) := ⟨_, rfl⟩
  obtain ⟨M5, d5⟩ : ∃ M5 : zM, M5 = (zu M4.1 71 4 (nI (g_sum N (120 + 24 * p) 24)), M4.2) := ⟨_, rfl⟩
  obtain ⟨M6, d6⟩ : ∃ M6 : zM, M6 = (zu M5.1 71 5 (nI (N (96 + p))), M5.2) := ⟨_, rfl⟩
  obtain ⟨M7, d7⟩ : ∃ M7 : zM, M7 = (zu M6.1 71 6 (nI m), M6.2) := ⟨_, rfl⟩
  obtain ⟨M8, d8⟩ : ∃ M8 : zM, M8 = (zu M7.1 71 7 (nI (N 697 % 24)), M7.2) := ⟨_, rfl⟩
  have f1 : Fr [71] M M1 := d1 ▸ w M _ _
  have f2 : Fr [71] M M2 := f1.tr (d2 ▸ w M1 _ _)
  have f3 : Fr [71] M M3 := f2.tr (d3 ▸ w M2 _ _)
  have f4 : Fr [71] M M4 := f3.tr (d4 ▸ w M3 _ _)
  have f5 : Fr [71] M M5 := f4.tr (d5 ▸ w M4 _ _)
  have f6 : Fr [71] M M6 := f5.tr (d6 ▸ w M5 _ _)
  have f7 : Fr [71] M M7 := f6.tr (d7 ▸ w M6 _ _)
  have f8 : Fr [71] M M8 := f7.tr (d8 ▸ w M7 _ _)
  have n1 : MN M1 55 N := hN.to (f1.c (by decide))
  have n4 : MN M4 55 N := hN.to (f4.c (by decide))
  have n5 : MN M5 55 N := hN.to (f5.c (by decide))
  have n7 : MN M7 55 N := hN.to (f7.c (by decide))
  have s1 := f1.st hS
  have s2 := f2.st hS
  have s3 := f3.st hS
  have s4 := f4.st hS
  have s5 := f5.st hS
  have s6 := f6.st hS
  have s7 := f7.st hS
  refine ⟨M8, ?_, f8, ?_⟩
  · rw [f_X12_asks, (ST.a hS (o := 54) (k := 26) (a := 71) (by decide)), z_rd_eq, ln71, if_pos (by decide), zl_eq, show ((0 : Int32).toNatClampNeg) = 0 from rfl, ← d1, (ST.a s1 (o := 54) (k := 26) (a := 71) (by decide)), z_rd_eq, (ST.a s1 (o := 54) (k := 0) (a := 55) (by decide)), z_rd_eq, ln55, show (24 + nI r : Int32) = nI (24 + r) by simp only [lit, nI_add], if_pos (by rw [z_ixN (by omega)]; omega), ln71, if_pos (by decide), zl_eq, nI_clamp (by omega), n1 (24 + r) (by omega), show ((1 : Int32).toNatClampNeg) = 1 from rfl, ← d2, (ST.a s2 (o := 54) (k := 26) (a := 71) (by decide)), z_rd_eq, ln71, if_pos (by decide), zl_eq, show ((2 : Int32).toNatClampNeg) = 2 from rfl, ← d3, (ST.a s3 (o := 54) (k := 26) (a := 71) (by decide)), z_rd_eq, ln71, if_pos (by decide), zl_eq, show ((3 : Int32).toNatClampNeg) = 3 from rfl, show (nI p / 4 : Int32) = nI (p / 4) from nI_div (d := 4) (by omega) (by omega) (by omega), ← d4, (ST.a s4 (o := 54) (k := 26) (a := 71) (by decide)), z_rd_eq, m_feltIn s4 n4 hp, z_call_eq, ln71, if_pos (by decide), zl_eq, show ((4 : Int32).toNatClampNeg) = 4 from rfl, ← d5, (ST.a s5 (o := 54) (k := 26) (a := 71) (by decide)), z_rd_eq, (ST.a s5 (o := 54) (k := 0) (a := 55) (by decide)), z_rd_eq, ln55, show (96 + nI p : Int32) = nI (96 + p) by simp only [lit, nI_add], if_pos (by rw [z_ixN (by omega)]; omega), ln71, if_pos (by decide), zl_eq, nI_clamp (by omega), n5 (96 + p) (by omega), show ((5 : Int32).toNatClampNeg) = 5 from rfl, ← d6, (ST.a s6 (o := 54) (k := 26) (a := 71) (by decide)), z_rd_eq, ln71, if_pos (by decide), zl_eq, show ((6 : Int32).toNatClampNeg) = 6 from rfl, ← d7, (ST.a s7 (o := 54) (k := 26) (a := 71) (by decide)), z_rd_eq, (ST.a s7 (o := 54) (k := 0) (a := 55) (by decide)), z_rd_eq, ln55, if_pos (by decide), ln71, if_pos (by decide), zl_eq, show ((697 : Int32).toNatClampNeg) = 697 from rfl, n7 697 (by omega), rem24 (by omega), show ((7 : Int32).toNatClampNeg) = 7 from rfl, ← d8]
  · have g : ∀ (A B : zM) j j' (v : Int32), B = (zu A.1 71 j v, A.2) → B.1 71 j' = if j' = j then v else A.1 71 j' := by
      intro A B j j' v h
      rw [h]
      show zu A.1 71 j v 71 j' = _
      by_cases z : j' = j
      · rw [if_pos z, z, zu_same]
      · rw [if_neg z, zu_ne _ _ _ z]
    intro j hj
    rw [g _ _ _ j _ d8, g _ _ _ j _ d7, g _ _ _ j _ d6, g _ _ _ j _ d5, g _ _ _ j _ d4, g _ _ _ j _ d3, g _ _ _ j _ d2, g _ _ _ j _ d1]
    rcases (show j = 0 ∨ j = 1 ∨ j = 2 ∨ j = 3 ∨ j = 4 ∨ j = 5 ∨ j = 6 ∨ j = 7 by omega) with rfl | rfl | rfl | rfl | rfl | rfl | rfl | rfl <;> rfl
/-- the class looks -/
theorem c_look {M : zM} {q o r p m : Nat} {N : Nat → Nat} (hq : LO q) (hO : SO o) (hC : CS M o N) : ∃ M', f_X4_look q o (nI r) (nI p) (nI m) M = some ((), M') ∧ FX [q] M M' ∧ (∀ j, j < 13 → M'.1 q j = M.1 q j) ∧ (∀ a b, ¬ (a = q ∧ b = 12) → M'.2.1 a b = M.2.1 a b) ∧ LK M' q o N r p m := by
  have hqo : o + 5 < q := by rcases hq with rfl | rfl <;> rcases hO with rfl | rfl | rfl <;> omega
  have hrf : rfx q 12 = true := by rcases hq with rfl | rfl <;> rfl
  refine ⟨_, rfl, ?_, ?_, ?_, ?_⟩
  · have x1 : FX [q] M (M.1, zu M.2.1 q 12 (some o), M.2.2) := FX.ref hrf
    refine x1.tr (Fr.X ?_)
    exact ((Fr.zu (M := (M.1, zu M.2.1 q 12 (some o), M.2.2)) (c := q) (by simp)).tr (Fr.zu (M := (zu M.1 q 13 (nI r), zu M.2.1 q 12 (some o), M.2.2)) (c := q) (by simp))).tr (Fr.zu (M := (zu (zu M.1 q 13 (nI r)) q 14 (nI p), zu M.2.1 q 12 (some o), M.2.2)) (c := q) (by simp))
  · intro j hj
    show zu (zu (zu M.1 q 13 (nI r)) q 14 (nI p)) q 15 (nI m) q j = _
    rw [zu_ne _ _ _ (by omega), zu_ne _ _ _ (by omega), zu_ne _ _ _ (by omega)]
  · intro a b hab
    show zu M.2.1 q 12 (some o) a b = _
    rw [zu_at, if_neg hab]
  · refine ⟨?_, ?_, ?_, ?_, ?_⟩
    · show zu (zu (zu M.1 q 13 (nI r)) q 14 (nI p)) q 15 (nI m) q 13 = _
      rw [zu_ne _ _ _ (by omega), zu_ne _ _ _ (by omega), zu_same]
    · show zu (zu (zu M.1 q 13 (nI r)) q 14 (nI p)) q 15 (nI m) q 14 = _
      rw [zu_ne _ _ _ (by omega), zu_same]
    · show zu (zu (zu M.1 q 13 (nI r)) q 14 (nI p)) q 15 (nI m) q 15 = _
      rw [zu_same]
    · show zu M.2.1 q 12 (some o) q 12 = _
      rw [zu_same]
    · refine hC.to (fun c h1 h2 => ?_)
      show zu (zu (zu M.1 q 13 (nI r)) q 14 (nI p)) q 15 (nI m) c = _
      rw [zu_cell _ _ _ (by omega), zu_cell _ _ _ (by omega), zu_cell _ _ _ (by omega)]
