/-! a line of a register: the reference -/
def LNm (e j : Nat) (M M' : zM) (o : Option (Int32 × zM)) (t : (Nat → Nat) × Nat × Int32) : Prop := o = some (if t.2.2 = 0 then 1 else 0, M') ∧ MX [54, 55] [5, 7, 8, 27] M M' ∧ (t.2.2 = 0 → MR M' e t.2.1 ∧ MN M' 55 t.1 ∧ M'.1 54 27 = nI j) ∧ (t.2.2 ≠ 0 → M'.1 54 7 = t.2.2)
theorem MX.f55 {M M' : zM} (h : Fr [55] M M') : MX [54, 55] [5, 7, 8, 27] M M' := ⟨h.mono (by decide), fun j _ => by rw [h.1 54 (by decide)]⟩
theorem MR.f55 {M M' : zM} {e p : Nat} (h : Fr [55] M M') (hr : MR M e p) : MR M' e p := by
  unfold MR
  rw [h.1 54 (by decide)]
  exact hr
theorem m_93 {M : zM} {B N : Nat → Nat} {e r a j : Nat} (hS : ST M) (hB : TB M B) (hr : MR M e a) (he : e ≤ 260) (ha : a ≤ e) (hN : MN M 55 N) (hR : NR N) (hrr : r < 24) (h27 : M.1 54 27 = nI j) (h0 : sg B e a = 33 → ¬ N r = 0) : ∃ M', LNm e j M M' (f_X12_readsLine_93 54 (nI r) (sg B e a) M) (lnS B e N r a) := by
  have x1 : MX [54, 55] [5, 7, 8, 27] M (zu M.1 54 5 (nI (a + 1)), M.2) := MX.s54 (by simp) (by simp)
  have s1 := x1.1.st hS
  have b1 : TB (zu M.1 54 5 (nI (a + 1)), M.2) B := hB.to (x1.1.1 2 (by decide)) (x1.1.1 58 (by decide))
  have r1 : MR (zu M.1 54 5 (nI (a + 1)), M.2) e (a + 1) := m_stp hr
  have n1 : MN (zu M.1 54 5 (nI (a + 1)), M.2) 55 N := hN.off (by decide)
  have j1 : (zu M.1 54 5 (nI (a + 1)), M.2).1 54 27 = nI j := by
    show zu M.1 54 5 (nI (a + 1)) 54 27 = _
    rw [zu_ne _ _ _ (by decide)]; exact h27
  -- one number of the row set
  have st : ∀ k v, k < 699 → MN (zu (zu M.1 54 5 (nI (a + 1))) 55 k (nI v), M.2) 55 (va_up N k v) → LNm e j M (zu (zu M.1 54 5 (nI (a + 1))) 55 k (nI v), M.2) (some (1, (zu (zu M.1 54 5 (nI (a + 1))) 55 k (nI v), M.2))) (va_up N k v, a + 1, 0) := by
    intro k v hk hm
    have f : Fr [55] (zu M.1 54 5 (nI (a + 1)), M.2) (zu (zu M.1 54 5 (nI (a + 1))) 55 k (nI v), M.2) := Fr.zu (M := (zu M.1 54 5 (nI (a + 1)), M.2)) (by simp)
    exact ⟨rfl, x1.tr (MX.f55 f), fun _ => ⟨r1.f55 f, hm, by rw [f.1 54 (by decide)]; exact j1⟩, fun h => absurd rfl h⟩
  have ch : ∀ M' N', Fr [55] (zu M.1 54 5 (nI (a + 1)), M.2) M' → MN M' 55 N' → LNm e j M M' (some (1, M')) (N', a + 1, 0) := by
    intro M' N' f hm
    exact ⟨rfl, x1.tr (MX.f55 f), fun _ => ⟨r1.f55 f, hm, by rw [f.1 54 (by decide)]; exact j1⟩, fun h => absurd rfl h⟩
  have l72 : (72 + nI r : Int32) = nI (72 + r) := by simp only [lit, nI_add]
  have l48 : (48 + nI r : Int32) = nI (48 + r) := by simp only [lit, nI_add]
  rw [f_X12_readsLine_93, zl_eq, hr.1, nI_1]
  unfold lnS
  by_cases h33 : sg B e a = 33
  · obtain ⟨M', i1, i2, i3⟩ := m_laysGuest (g := 0) (s := 0) s1 n1 hrr
    rw [if_pos h33, if_pos h33, if_neg (h0 h33), show f_X12_laysGuest 54 (nI r) 0 0 (zu M.1 54 5 (nI (a + 1)), M.2) = some ((), M') from i1, z_call_eq]
    exact ⟨M', ch _ _ i2 i3⟩
  rw [if_neg h33, if_neg h33]
  by_cases h60 : sg B e a = 60
  · rw [if_pos h60, if_pos h60, (ST.a s1 (o := 54) (k := 0) (a := 55) (by decide)), z_rd_eq, ln55, l72, if_pos (by rw [z_ixN (by omega)]; omega), zl_eq, nI_clamp (by omega)]
    exact ⟨_, st (72 + r) 0 (by omega) n1.set⟩
  rw [if_neg h60, if_neg h60]
  by_cases h61 : sg B e a = 61
  · have hl := sg_lt h61 (by decide)
    obtain ⟨M2, i1, i2, i3, i4⟩ := m_amount (d := 4) s1 b1 r1 he (by omega) (by omega) (by omega)
    have x2 := x1.tr (i2.mono (by decide) (by decide))
    have n2 : MN M2 55 N := n1.to (i2.1.1 55 (by decide))
    rw [if_pos h61, if_pos h61, show (4 : Int32) = nI 4 from rfl, i1, z_call_eq]
    by_cases z : nmF B e 4 (a + 1) = 0
    · obtain ⟨k1, k2⟩ := i3 z
      obtain ⟨M3, d1, d2, d3⟩ := m_laysGuest (g := 1) (s := nmN B e 4 (a + 1)) (i2.1.st s1) n2 hrr
      rw [if_pos z, if_neg (by decide), k2, show f_X12_laysGuest 54 (nI r) 1 (nI (nmN B e 4 (a + 1))) M2 = some ((), M3) from d1, z_call_eq, if_pos z]
      exact ⟨M3, rfl, x2.tr (MX.f55 d2), fun _ => ⟨k1.f55 d2, d3, by rw [d2.1 54 (by decide), i2.2 27 (by decide)]; exact j1⟩, fun h => absurd rfl h⟩
    · rw [if_neg z, if_pos rfl, if_neg z]
      exact ⟨M2, by show some ((0 : Int32), M2) = some (if nmF B e 4 (a + 1) = 0 then 1 else 0, M2); rw [if_neg z], x2, fun h => absurd h z, i4⟩
  rw [if_neg h61, if_neg h61]
  by_cases h62 : sg B e a = 62
  · rw [if_pos h62, if_pos h62, (ST.a s1 (o := 54) (k := 0) (a := 55) (by decide)), z_rd_eq, ln55, l72, if_pos (by rw [z_ixN (by omega)]; omega), zl_eq, nI_clamp (by omega)]
    exact ⟨_, st (72 + r) 2 (by omega) n1.set⟩
  rw [if_neg h62, if_neg h62]
  by_cases h64 : sg B e a = 64
  · have hl := sg_lt h64 (by decide)
    obtain ⟨M2, i1, i2, i3, i4⟩ := m_readsRoom s1 b1 r1 he (by omega)
    have x2 := x1.tr (i2.mono (by decide) (by decide))
    have n2 : MN M2 55 N := n1.to (i2.1.1 55 (by decide))
    have s2 := i2.1.st s1
    rw [if_pos h64, if_pos h64, f_X12_readsMove, zl_eq, i1, z_call_eq]
    by_cases z : rmF B e (a + 1) = 0
    · obtain ⟨k1, k2⟩ := i3 z
      have hqq := (rmF_0 (by omega) he z).2.1
      rw [if_pos z, if_neg (by decide), if_pos z, k2, (ST.a s2 (o := 54) (k := 0) (a := 55) (by decide)), z_rd_eq, ln55, Int32.zero_add, Int32.zero_add]
      generalize nmN B e 2 (a + 1) = q2 at hqq k2 ⊢
      generalize a + 1 + rl B e 2 (a + 1) = a2 at k1 ⊢
      have g1 := hR.1 r hrr
      have g2 := hR.1 q2 hqq
      rw [if_pos (by rw [z_ixN (by omega)]; omega), z_rd_eq, ln55, if_pos (by rw [z_ixN (by omega)]; omega), nI_clamp (by omega), nI_clamp (by omega), n2 r (by omega), n2 q2 (by omega), nI_add]
      by_cases y : N r = 0 ∧ N q2 = 0
      · have hnz : flt 7 a ≠ 0 := flt_nz (by omega) (by omega) (by omega)
        rw [if_pos (show nI (N r + N q2) = 0 by rw [y.1, y.2]; rfl), show ((zu M.1 54 5 (nI (a + 1)), M.2).1 54 5 : Int32) = nI (a + 1) from zu_same M.1 54 5 _, show nI (a + 1) - 1 = nI a from nI_sub (b := 1) (by omega), show (7 : Int32) = nI 7 from rfl, m_wrN, z_call_eq, if_pos (Or.inl rfl), z_call_eq, if_pos (Or.inl rfl), if_pos y]
        exact ⟨(zu M2.1 54 7 (flt 7 a), M2.2), by show some ((0 : Int32), _) = some (if flt 7 a = 0 then 1 else 0, _); rw [if_neg hnz], x2.tr (MX.s54 (by simp) (by simp)), fun h => absurd h hnz, fun _ => zu_same M2.1 54 7 _⟩
      · obtain ⟨M3, d1, d2, d3⟩ := m_changes s2 n2 hrr hqq
        rw [if_neg (nI_nz (by omega) (by omega)), d1, z_call_eq, z_call_eq, if_pos (Or.inr rfl), if_neg y]
        exact ⟨M3, rfl, x2.tr (MX.f55 d2), fun _ => ⟨k1.f55 d2, d3, by rw [d2.1 54 (by decide), i2.2 27 (by decide)]; exact j1⟩, fun h => absurd rfl h⟩
    · rw [if_neg z, if_pos rfl, if_neg z, z_call_eq, if_pos (Or.inl rfl)]
      exact ⟨M2, by show some ((0 : Int32), M2) = some (if rmF B e (a + 1) = 0 then 1 else 0, M2); rw [if_neg z], x2, fun h => absurd h z, i4⟩
  rw [if_neg h64, if_neg h64]
  by_cases h111 : sg B e a = 111
  · rw [if_pos h111, if_pos h111, (ST.a s1 (o := 54) (k := 0) (a := 55) (by decide)), z_rd_eq, ln55, l48, if_pos (by rw [z_ixN (by omega)]; omega), zl_eq, nI_clamp (by omega)]
    exact ⟨_, st (48 + r) 1 (by omega) n1.set⟩
  rw [if_neg h111, if_neg h111]
  by_cases h115 : sg B e a = 115
  · rw [if_pos h115, if_pos h115, (ST.a s1 (o := 54) (k := 0) (a := 55) (by decide)), z_rd_eq, ln55, l48, if_pos (by rw [z_ixN (by omega)]; omega), zl_eq, nI_clamp (by omega)]
    exact ⟨_, st (48 + r) 0 (by omega) n1.set⟩
  rw [if_neg h115, if_neg h115]
  by_cases h124 : sg B e a = 124
  · rw [if_pos h124, if_pos h124, (ST.a s1 (o := 54) (k := 0) (a := 55) (by decide)), z_rd_eq, ln55, l72, if_pos (by rw [z_ixN (by omega)]; omega), zl_eq, nI_clamp (by omega)]
    exact ⟨_, st (72 + r) 1 (by omega) n1.set⟩
  have hnz : flt 1 a ≠ 0 := flt_nz (by omega) (by omega) (by omega)
  rw [if_neg h124, if_neg h124, show ((zu M.1 54 5 (nI (a + 1)), M.2).1 54 5 : Int32) = nI (a + 1) from zu_same M.1 54 5 _, show nI (a + 1) - 1 = nI a from nI_sub (b := 1) (by omega), show (1 : Int32) = nI 1 from rfl, m_wrN, z_call_eq, if_pos (Or.inl rfl)]
  exact ⟨(zu (zu M.1 54 5 (nI (a + 1))) 54 7 (flt 1 a), M.2), by show some ((0 : Int32), _) = some (if flt 1 a = 0 then 1 else 0, _); rw [if_neg hnz], x1.tr (MX.s54 (M := (zu M.1 54 5 (nI (a + 1)), M.2)) (by simp) (by simp)), fun h => absurd h hnz, fun _ => zu_same (zu M.1 54 5 (nI (a + 1))) 54 7 _⟩
theorem m_readsLine {M : zM} {B N : Nat → Nat} {e p j : Nat} (hS : ST M) (hB : TB M B) (hr : MR M e p) (he : e ≤ 260) (hp : p ≤ e) (hN : MN M 55 N) (hR : NR N) (h27 : M.1 54 27 = nI j) (hj : j < 20) : ∃ M', LNm e (j + 1) M M' (f_X12_readsLine 54 M) (lnO B e N p) := by
  have h5 := rl_e (B := B) (e := e) 2 p hp
  rw [f_X12_readsLine, m_isDigit hS hB hr he (by omega), z_call_eq]
  unfold lnO
  by_cases q : isd B e p = true
  · have x1 : MX [54, 55] [5, 7, 8, 27] M (zu M.1 54 27 (nI (j + 1)), M.2) := MX.s54 (by simp) (by simp)
    have s1 := x1.1.st hS
    have b1 : TB (zu M.1 54 27 (nI (j + 1)), M.2) B := hB.to (x1.1.1 2 (by decide)) (x1.1.1 58 (by decide))
    have r1 : MR (zu M.1 54 27 (nI (j + 1)), M.2) e p := hr.to (zu_ne M.1 54 (j := 27) (j' := 5) (nI (j + 1)) (by decide)) (zu_ne M.1 54 (j := 27) (j' := 6) (nI (j + 1)) (by decide))
    obtain ⟨M2, i1, i2, i3, i4⟩ := m_readsRoom s1 b1 r1 he hp
    have x2 := x1.tr (i2.mono (by decide) (by decide))
    have s2 := i2.1.st s1
    have n2 : MN M2 55 N := MN.to (M := (zu M.1 54 27 (nI (j + 1)), M.2)) (hN.off (by decide)) (i2.1.1 55 (by decide))
    have b2 : TB M2 B := b1.to (i2.1.1 2 (by decide)) (i2.1.1 58 (by decide))
    have j2 : M2.1 54 27 = nI (j + 1) := by rw [i2.2 27 (by decide)]; exact zu_same M.1 54 27 _
    rw [if_pos q, if_neg (by decide), h27, if_neg (fun h => by have := (nI_eq (b := 20) (by omega) (by omega)).mp h; omega), zl_eq, nI_1, i1, z_call_eq]
    by_cases z : rmF B e p = 0
    · obtain ⟨k1, k2⟩ := i3 z
      have hrr := (rmF_0 hp he z).2.1
      rw [if_pos z, if_neg (by decide), if_pos z, zl_eq, k2, m_here s2 b2 k1 he (by omega), z_call_eq]
      generalize nmN B e 2 p = r at hrr k2 ⊢
      generalize p + rl B e 2 p = a at h5 k1 ⊢
      have g1 := hR.1 r hrr
      by_cases h33 : sg B e a = 33
      · rw [if_pos h33, (ST.a s2 (o := 54) (k := 0) (a := 55) (by decide)), z_rd_eq, ln55, Int32.zero_add, if_pos (by rw [z_ixN (by omega)]; omega), nI_clamp (by omega), n2 r (by omega)]
        by_cases y : N r = 0
        · have hnz : flt 7 a ≠ 0 := flt_nz (by omega) (by omega) (by omega)
          rw [if_pos (show nI (N r) = 0 by rw [y]; rfl), k1.1, show (7 : Int32) = nI 7 from rfl, m_wrN, z_call_eq, if_pos (Or.inl rfl)]
          unfold lnS
          rw [if_pos h33, if_pos y]
          exact ⟨(zu M2.1 54 7 (flt 7 a), M2.2), by show some ((0 : Int32), _) = some (if flt 7 a = 0 then 1 else 0, _); rw [if_neg hnz], x2.tr (MX.s54 (by simp) (by simp)), fun h => absurd h hnz, fun _ => zu_same M2.1 54 7 _⟩
        · obtain ⟨M3, c1, c2, c3, c4⟩ := m_93 s2 b2 k1 he h5 n2 hR hrr j2 (fun _ => y)
          rw [if_neg (nI_nz y (by omega))]
          exact ⟨M3, c1, x2.tr c2, c3, c4⟩
      · obtain ⟨M3, c1, c2, c3, c4⟩ := m_93 s2 b2 k1 he h5 n2 hR hrr j2 (fun h => absurd h h33)
        rw [if_neg h33]
        exact ⟨M3, c1, x2.tr c2, c3, c4⟩
    · rw [if_neg z, if_pos rfl, if_neg z]
      exact ⟨M2, by show some ((0 : Int32), M2) = some (if rmF B e p = 0 then 1 else 0, M2); rw [if_neg z], x2, fun h => absurd h z, i4⟩
  · have h0 : rl B e 2 p = 0 := rl_f q
    have hnz : flt 1 p ≠ 0 := flt_nz (by omega) (by omega) (by omega)
    have hF : rmF B e p = flt 1 p := by
      have h1 : nmF B e 2 p = flt 1 p := by unfold nmF; rw [if_pos h0]
      unfold rmF
      rw [h1, if_neg hnz]
    rw [if_neg q, if_pos rfl, hr.1, show (1 : Int32) = nI 1 from rfl, m_wrN, z_call_eq, if_pos (Or.inl rfl), hF, if_neg hnz]
    exact ⟨(zu M.1 54 7 (flt 1 p), M.2), by show some ((0 : Int32), _) = some (if flt 1 p = 0 then 1 else 0, _); rw [if_neg hnz], MX.s54 (by simp) (by simp), fun h => absurd h hnz, fun _ => zu_same M.1 54 7 _⟩
