/-! keeping and undoing -/
def cp1 (o p n : Nat) (I : Nat → Nat → Int32) : Nat → Nat → Int32 := va_up I o (va_cpy (I p) (I o) 0 0 n)
def cpI (o p : Nat) (I : Nat → Nat → Int32) : Nat → Nat → Int32 :=
  cp1 (o + 5) (p + 5) 24 (cp1 (o + 4) (p + 4) 576 (cp1 (o + 3) (p + 3) 24 (cp1 (o + 2) (p + 2) 24 (cp1 (o + 1) (p + 1) 24 I))))
def cpJ (o p : Nat) (I : Nat → Nat → Int32) : Nat → Nat → Int32 := zu (zu (zu (zu (zu I o 5 (I p 5)) o 6 (I p 6)) o 7 (I p 7)) o 8 (I p 8)) o 9 (I p 9)
theorem cp1_o {o p n c : Nat} {I : Nat → Nat → Int32} (h : c ≠ o) : cp1 o p n I c = I c := va_ne h
theorem cp1_s {o p n k : Nat} {I : Nat → Nat → Int32} (h : k < n) : cp1 o p n I o k = I p k := by
  unfold cp1
  rw [va_eq]
  unfold va_cpy
  rw [if_pos ⟨Nat.zero_le _, by omega⟩]
  congr 1
  omega
theorem cpJ_o {o p c : Nat} {I : Nat → Nat → Int32} (h : c ≠ o) : cpJ o p I c = I c := by
  unfold cpJ
  rw [zu_cell _ _ _ h, zu_cell _ _ _ h, zu_cell _ _ _ h, zu_cell _ _ _ h, zu_cell _ _ _ h]
theorem cpJ_s {o p k : Nat} {I : Nat → Nat → Int32} (h1 : 5 ≤ k) (h2 : k ≤ 9) : cpJ o p I o k = I p k := by
  unfold cpJ
  simp only [zu_self]
  rcases (show k = 5 ∨ k = 6 ∨ k = 7 ∨ k = 8 ∨ k = 9 by omega) with rfl | rfl | rfl | rfl | rfl
  · rw [va_ne (by decide), va_ne (by decide), va_ne (by decide), va_ne (by decide), va_eq]
  · rw [va_ne (by decide), va_ne (by decide), va_ne (by decide), va_eq]
  · rw [va_ne (by decide), va_ne (by decide), va_eq]
  · rw [va_ne (by decide), va_eq]
  · rw [va_eq]
theorem c24 : (24 : Int32).toNatClampNeg = 24 := by decide
theorem c576 : (576 : Int32).toNatClampNeg = 576 := by decide
theorem c0 : (0 : Int32).toNatClampNeg = 0 := by decide
theorem c_copyFrom_eq {M : zM} {o p : Nat} (hO : SO o) (hP : SO p) (hne : o ≠ p) (hS : ST M) : f_X8_copyFrom o p M = some ((), (cpJ o p (cpI o p M.1), M.2)) := by
  obtain ⟨l1, l2, l3, l4, l5⟩ := hO.lns
  obtain ⟨r1, r2, r3, r4, r5⟩ := hO.rs hS
  obtain ⟨l1', l2', l3', l4', l5'⟩ := hP.lns
  obtain ⟨r1', r2', r3', r4', r5'⟩ := hP.rs hS
  have e : ∀ k, cpI o p M.1 p k = M.1 p k := by
    intro k
    unfold cpI
    unfold SO at hO hP
    rw [cp1_o (by omega), cp1_o (by omega), cp1_o (by omega), cp1_o (by omega), cp1_o (by omega)]
  rw [f_X8_copyFrom]
  simp only [r1, r2, r3, r4, r5, r1', r2', r3', r4', r5', z_rd_eq, zl_eq, c24, c576, c0, l1, l2, l3, l4, l5, l1', l2', l3', l4', l5', Nat.zero_add, Nat.le_refl, if_true]
  have hz : ∀ (I : Nat → Nat → Int32) (j k : Nat) (v : Int32), zu I o j v p k = I p k := fun I j k v => by rw [zu_cell _ _ _ (Ne.symm hne)]
  simp only [hz]
  rfl
theorem CS.cp {M : zM} {o p : Nat} {N : Nat → Nat} (hO : SO o) (hP : SO p) (hne : o ≠ p) (hC : CS M p N) : CS (cpJ o p (cpI o p M.1), M.2) o N := by
  obtain ⟨h1, h2, h3, h4, h5, h6, h7, h8, h9, h10⟩ := hC
  unfold SO at hO hP
  have e : ∀ k, cpI o p M.1 p k = M.1 p k := by
    intro k
    unfold cpI
    rw [cp1_o (by omega), cp1_o (by omega), cp1_o (by omega), cp1_o (by omega), cp1_o (by omega)]
  refine ⟨fun r hr => ?_, fun r hr => ?_, fun r hr => ?_, fun k hk => ?_, fun r hr => ?_, ?_, ?_, ?_, ?_, ?_⟩
  · rw [← h1 r hr]
    show cpJ o p (cpI o p M.1) (o + 1) r = _
    rw [cpJ_o (by omega)]
    unfold cpI
    rw [cp1_o (by omega), cp1_o (by omega), cp1_o (by omega), cp1_o (by omega), cp1_s (by omega)]
  · rw [← h2 r hr]
    show cpJ o p (cpI o p M.1) (o + 2) r = _
    rw [cpJ_o (by omega)]
    unfold cpI
    rw [cp1_o (by omega), cp1_o (by omega), cp1_o (by omega), cp1_s (by omega), cp1_o (by omega)]
  · rw [← h3 r hr]
    show cpJ o p (cpI o p M.1) (o + 3) r = _
    rw [cpJ_o (by omega)]
    unfold cpI
    rw [cp1_o (by omega), cp1_o (by omega), cp1_s (by omega), cp1_o (by omega), cp1_o (by omega)]
  · rw [← h4 k hk]
    show cpJ o p (cpI o p M.1) (o + 4) k = _
    rw [cpJ_o (by omega)]
    unfold cpI
    rw [cp1_o (by omega), cp1_s (by omega), cp1_o (by omega), cp1_o (by omega), cp1_o (by omega)]
  · rw [← h5 r hr]
    show cpJ o p (cpI o p M.1) (o + 5) r = _
    rw [cpJ_o (by omega)]
    unfold cpI
    rw [cp1_s (by omega), cp1_o (by omega), cp1_o (by omega), cp1_o (by omega), cp1_o (by omega)]
  · rw [← h6, ← e]; exact cpJ_s (by omega) (by omega)
  · rw [← h7, ← e]; exact cpJ_s (by omega) (by omega)
  · rw [← h8, ← e]; exact cpJ_s (by omega) (by omega)
  · rw [← h9, ← e]; exact cpJ_s (by omega) (by omega)
  · rw [← h10, ← e]; exact cpJ_s (by omega) (by omega)
theorem Fr.cp {M : zM} {o p : Nat} : Fr (shc o) M (cpJ o p (cpI o p M.1), M.2) := by
  refine ⟨fun c hc => ?_, rfl⟩
  unfold shc at hc
  simp only [List.mem_cons, List.not_mem_nil, or_false, not_or] at hc
  show cpJ o p (cpI o p M.1) c = _
  rw [cpJ_o (by omega)]
  unfold cpI
  rw [cp1_o (by omega), cp1_o (by omega), cp1_o (by omega), cp1_o (by omega), cp1_o (by omega)]
theorem c_copyFrom {M : zM} {o p : Nat} {N : Nat → Nat} (hO : SO o) (hP : SO p) (hne : o ≠ p) (hS : ST M) (hC : CS M p N) : ∃ M', f_X8_copyFrom o p M = some ((), M') ∧ Fr (shc o) M M' ∧ CS M' o N := ⟨_, c_copyFrom_eq hO hP hne hS, Fr.cp, hC.cp hO hP hne⟩
theorem m_copies_lp {a b : Nat} {N : Nat → Nat} (hab : a ≠ b) (la : z_ln SH a = 699) (lb : z_ln SH b = 699) : ∀ m n i (M : zM), i + m = 699 → m < n → MN M a N → (∀ k, k < i → M.1 b k = nI (N k)) → ∃ M', f_X12_copies_2 a b n (nI i) M = some ((), M') ∧ Fr [b] M M' ∧ MN M' b N := by
  intro m
  induction m with
  | zero =>
    intro n i M hi hn hN hb
    obtain ⟨n, rfl⟩ : ∃ m, n = m + 1 := ⟨n - 1, by omega⟩
    obtain rfl : i = 699 := by omega
    refine ⟨M, ?_, Fr.rf, hb⟩
    rw [f_X12_copies_2, if_pos (by decide)]
  | succ m ih =>
    intro n i M hi hn hN hb
    obtain ⟨n, rfl⟩ : ∃ m, n = m + 1 := ⟨n - 1, by omega⟩
    obtain ⟨M', h1, h2, h3⟩ := ih n (i + 1) (zu M.1 b i (nI (N i)), M.2) (by omega) (by omega) (hN.off hab) (fun k hk => by
      show zu M.1 b i (nI (N i)) b k = _
      by_cases e : k = i
      · rw [e, zu_same]
      · rw [zu_ne _ _ _ e]; exact hb k (by omega))
    refine ⟨M', ?_, (Fr.zu (M := M) (c := b) (by simp)).tr h2, h3⟩
    rw [f_X12_copies_2, if_neg (show ¬ (699 : Int32) ≤ nI i from nI_ge (b := 699) (by omega) (by omega)), if_pos (by rw [z_ixN (by omega), la]; omega), if_pos (by rw [z_ixN (by omega), lb]; omega), zl_eq, nI_clamp (by omega), hN i (by omega), zl_eq, nI_1]
    exact h1
theorem m_copies {M : zM} {a b : Nat} {N : Nat → Nat} (hab : a ≠ b) (la : z_ln SH a = 699) (lb : z_ln SH b = 699) (hN : MN M a N) : ∃ M', f_X12_copies a b M = some ((), M') ∧ Fr [b] M M' ∧ MN M' b N := m_copies_lp hab la lb 699 zF 0 M (by omega) (by decide) hN (fun k hk => by omega)
theorem p_keep : ok_keep Inv := by
  intro M hI _
  obtain ⟨N, K, hS, hR, hN, hC, hK, hT, hL⟩ := id hI
  obtain ⟨M1, h1, f1, c1⟩ := c_copyFrom hO9 hO3 (by decide) hS hC
  have hS1 := f1.st hS
  have f2 : Fr [0] M1 (zu M1.1 0 13 1, M1.2) := Fr.zu (by simp)
  have f3 : Fr [54] (zu M1.1 0 13 1, M1.2) (zu (zu M1.1 0 13 1) 54 41 1, M1.2) := Fr.zu (M := (zu M1.1 0 13 1, M1.2)) (by simp)
  have hN3 : MN (zu (zu M1.1 0 13 1) 54 41 1, M1.2) 55 N := ((hN.to (f1.1 55 (by decide))).to (f2.1 55 (by decide))).to (f3.1 55 (by decide))
  obtain ⟨M2, h2, f4, n2⟩ := m_copies (b := 57) (by decide) ln55 ln57 hN3
  have fF : Fr [0, 9, 10, 11, 12, 13, 14, 54, 57] M M2 := (((f1.mono (by decide)).tr (f2.mono (by decide))).tr (f3.mono (by decide))).tr (f4.mono (by decide))
  have e : ∀ c, c ∉ [0, 9, 10, 11, 12, 13, 14, 54, 57] → M2.1 c = M.1 c := fF.1
  have e0 : M2.1 0 = va_up (M.1 0) 13 1 := by
    rw [f4.1 0 (by decide), f3.1 0 (by decide)]
    show zu M1.1 0 13 1 0 = _
    rw [zu_self, f1.1 0 (by decide)]
  have e54 : M2.1 54 = va_up (M.1 54) 41 1 := by
    rw [f4.1 54 (by decide)]
    show zu (zu M1.1 0 13 1) 54 41 1 54 = _
    rw [zu_self, zu_cell _ _ _ (by decide), f1.1 54 (by decide)]
  refine ⟨nI (N 697), (zu M1.1 0 13 1, M1.2), M2, ?_, ?_, ?_⟩
  · rw [f_X11_keep, (ST.a hS (o := 0) (k := 2) (a := 9) (by decide)), z_rd_eq, (ST.a hS (o := 0) (k := 1) (a := 3) (by decide)), z_rd_eq, h1, z_call_eq, zl_eq]
    show z_rd (M1.2.1 0 2) _ = _
    rw [(ST.a hS1 (o := 0) (k := 2) (a := 9) (by decide)), z_rd_eq]
    show some (zu M1.1 0 13 1 9 8, _) = _
    rw [zu_cell _ _ _ (by decide), c1.2.2.2.2.2.2.2.2.1]
  · rw [f_X12_keep, zl_eq]
    show z_rd (M1.2.1 54 0) _ = _
    rw [(ST.a hS1 (o := 54) (k := 0) (a := 55) (by decide)), z_rd_eq]
    show z_rd (M1.2.1 54 2) _ = _
    rw [(ST.a hS1 (o := 54) (k := 2) (a := 57) (by decide)), z_rd_eq, h2, z_call_eq]
    have hS2 : ST M2 := f4.st (f3.st (f2.st hS1))
    rw [(ST.a hS2 (o := 54) (k := 0) (a := 55) (by decide)), z_rd_eq, if_pos (by rw [ln55]; decide), f4.1 55 (by decide), show (697 : Int32).toNatClampNeg = 697 by decide, hN3 697 (by omega)]
  · refine ⟨N, N, fF.st hS, hR, hN.to (e 55 (by decide)), hC.to (fun c q1 q2 => e c (by simp; omega)), Or.inr ⟨?_, ?_, hR, n2, ?_⟩, hT.to (by rw [e 1 (by decide)]) (by rw [e54, va_ne (by decide)]) (e 2 (by decide)) (e 58 (by decide)), hL.to (by rw [fF.2]) (by rw [fF.2]) ?_ ⟨e 65 (by decide), e 66 (by decide), e 67 (by decide), e 68 (by decide), e 69 (by decide)⟩ (by rw [e54, va_ne (by decide)])⟩
    · rw [e0, va_eq]
    · rw [e54, va_eq]
    · refine c1.to (fun c q1 q2 => ?_)
      rw [f4.1 c (by simp; omega), f3.1 c (by simp; omega), f2.1 c (by simp; omega)]
    · intro q hq
      rcases hq with rfl | rfl
      · rw [e 21 (by decide)]
        exact ⟨rfl, rfl, e 22 (by decide), e 23 (by decide), e 24 (by decide), e 25 (by decide), e 26 (by decide), e 27 (by decide)⟩
      · rw [e 29 (by decide)]
        exact ⟨rfl, rfl, e 30 (by decide), e 31 (by decide), e 32 (by decide), e 33 (by decide), e 34 (by decide), e 35 (by decide)⟩
theorem p_undo : ok_undo Inv := by
  intro M hI _
  obtain ⟨N, K, hS, hR, hN, hC, hK, hT, hL⟩ := id hI
  rcases id hK with ⟨a, b⟩ | ⟨a, b, hRK, hNK, hCK⟩
  · refine ⟨0, M, M, ?_, ?_, hI⟩
    · rw [f_X11_undo, if_pos a]
    · rw [f_X12_undo, if_pos b]
  · obtain ⟨M1, h1, f1, c1⟩ := c_copyFrom hO3 hO9 (by decide) hS hCK
    have hS1 := f1.st hS
    obtain ⟨M2, h2, f4, n2⟩ := m_copies (b := 55) (by decide) ln57 ln55 (hNK.to (f1.1 57 (by decide)))
    refine ⟨1, M1, M2, ?_, ?_, ?_⟩
    · rw [f_X11_undo, if_neg (by rw [a]; decide), (ST.a hS (o := 0) (k := 1) (a := 3) (by decide)), z_rd_eq, (ST.a hS (o := 0) (k := 2) (a := 9) (by decide)), z_rd_eq, h1, z_call_eq]
    · rw [f_X12_undo, if_neg (by rw [f1.1 54 (by decide), b]; decide), (ST.a hS1 (o := 54) (k := 2) (a := 57) (by decide)), z_rd_eq, (ST.a hS1 (o := 54) (k := 0) (a := 55) (by decide)), z_rd_eq, h2, z_call_eq]
    · exact Inv.of hS hK hT hL ((f1.mono (by decide)).tr (f4.mono (by decide))) hRK n2 (c1.to (fun c q1 q2 => f4.1 c (by simp; omega)))
