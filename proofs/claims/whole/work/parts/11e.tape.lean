/-! the tape: feeding, taking; scratch cells -/
def impC : List Nat := [0, 2, 3, 4, 5, 6, 7, 8, 9, 10, 11, 12, 13, 14, 21, 22, 23, 24, 25, 26, 27, 29, 30, 31, 32, 33, 34, 35, 55, 57, 58, 65, 66, 67, 68, 69]
/-- a change outside of all that the invariant speaks of, the tape aside -/
theorem Inv.scr {M M2 : zM} {N K : Nat → Nat} {l : List Nat} (hS : ST M) (hR : NR N) (hN : MN M 55 N) (hC : CS M 3 N) (hK : KP M K) (hL : LW M) (hF : Fr l M M2) (hl : ∀ c ∈ impC, c ∉ l) (hT : TP M2) (e13 : M2.1 54 13 = M.1 54 13) (e41 : M2.1 54 41 = M.1 54 41) : Inv M2 := by
  have e : ∀ c, c ∈ impC → M2.1 c = M.1 c := fun c hc => hF.1 c (hl c hc)
  refine ⟨N, K, hF.st hS, hR, hN.to (e 55 (by decide)), hC.to (fun c q1 q2 => e c ?_), hK.to (by rw [e 0 (by decide)]) e41 (e 57 (by decide)) (fun c h1 h2 => e c ?_), hT, hL.to (by rw [hF.2]) (by rw [hF.2]) ?_ ⟨e 65 (by decide), e 66 (by decide), e 67 (by decide), e 68 (by decide), e 69 (by decide)⟩ e13⟩
  · unfold impC; simp; omega
  · unfold impC; simp; omega
  · intro q hq
    rcases hq with rfl | rfl
    · rw [e 21 (by decide)]
      exact ⟨rfl, rfl, e 22 (by decide), e 23 (by decide), e 24 (by decide), e 25 (by decide), e 26 (by decide), e 27 (by decide)⟩
    · rw [e 29 (by decide)]
      exact ⟨rfl, rfl, e 30 (by decide), e 31 (by decide), e 32 (by decide), e 33 (by decide), e 34 (by decide), e 35 (by decide)⟩
/-- the bytes as numbers -/
def TB (M : zM) (B : Nat → Nat) : Prop := ∀ k, k < 260 → B k < 256 ∧ M.1 2 k = nI (B k) ∧ M.1 58 k = sb_b (B k)
theorem TP.get {M : zM} (h : TP M) : ∃ n B, n ≤ 260 ∧ M.1 1 1 = nI n ∧ M.1 54 4 = nI n ∧ TB M B := by
  obtain ⟨n, h1, h2, h3, h4⟩ := h
  refine ⟨n, fun k => (M.1 2 k).toNatClampNeg, h1, h2, h3, fun k hk => ?_⟩
  obtain ⟨b, b1, b2, b3⟩ := h4 k hk
  have e : (M.1 2 k).toNatClampNeg = b := by rw [b2, nI_clamp (by omega)]
  show (M.1 2 k).toNatClampNeg < 256 ∧ M.1 2 k = nI ((M.1 2 k).toNatClampNeg) ∧ M.1 58 k = sb_b ((M.1 2 k).toNatClampNeg)
  rw [e]
  exact ⟨b1, b2, b3⟩
theorem TP.put {M : zM} {n : Nat} {B : Nat → Nat} (h1 : n ≤ 260) (h2 : M.1 1 1 = nI n) (h3 : M.1 54 4 = nI n) (h4 : TB M B) : TP M := ⟨n, h1, h2, h3, fun k hk => ⟨B k, h4 k hk⟩⟩
theorem TB.to {M M' : zM} {B : Nat → Nat} (h : TB M B) (e1 : M'.1 2 = M.1 2) (e2 : M'.1 58 = M.1 58) : TB M' B := fun k hk => by rw [e1, e2]; exact h k hk
def byt (v : Int32) : Nat := v.toBitVec.toNat % 256
theorem byt_lt (v : Int32) : byt v < 256 := Nat.mod_lt _ (by omega)
theorem byt_and (v : Int32) : v &&& 255 = nI (byt v) := by
  apply Int32.toBitVec_inj.mp
  show v.toBitVec &&& 255#32 = BitVec.ofNat 32 (byt v)
  apply BitVec.eq_of_toNat_eq
  rw [BitVec.toNat_and, BitVec.toNat_ofNat, BitVec.toNat_ofNat]
  unfold byt
  rw [show 255 % 2 ^ 32 = 2 ^ 8 - 1 from rfl, Nat.and_two_pow_sub_one_eq_mod]
  omega
theorem byt_i8 (v : Int32) : v.toInt8 = (nI (byt v)).toInt8 := by
  apply Int8.toBitVec_inj.mp
  show v.toBitVec.signExtend 8 = (BitVec.ofNat 32 (byt v)).signExtend 8
  rw [BitVec.signExtend_eq_setWidth_of_le _ (by omega), BitVec.signExtend_eq_setWidth_of_le _ (by omega)]
  apply BitVec.eq_of_toNat_eq
  rw [BitVec.toNat_setWidth, BitVec.toNat_setWidth, BitVec.toNat_ofNat]
  unfold byt
  omega
theorem byt_sb (v : Int32) : (v.toInt8.toInt32).toInt8.toInt32 = sb_b (byt v) := by
  rw [Int8.toInt8_toInt32, byt_i8]
  rfl
def TC (M : zM) (n : Nat) (B : Nat → Nat) : Prop := M.1 1 1 = nI n ∧ ∀ k, k < 260 → M.1 2 k = nI (B k)
def TM (M : zM) (n : Nat) (B : Nat → Nat) : Prop := M.1 54 4 = nI n ∧ (∀ k, k < 260 → M.1 58 k = sb_b (B k))
theorem c_aw {M : zM} {n m : Nat} {B : Nat → Nat} {w s : Int32} (hS : ST M) (hT : TC M n B) (hn : n < 260) (hs : ¬ s < 0) : ∃ M', f_X10_addWord_3 1 w (m + 1) s M = f_X10_addWord_3 1 w m (s + (-8)) M' ∧ Fr [1, 2] M M' ∧ TC M' (n + 1) (va_up B n (byt (w >>> (s &&& 31)))) := by
  refine ⟨(zu (zu M.1 2 n (nI (byt (w >>> (s &&& 31))))) 1 1 (nI (n + 1)), M.2), ?_, (Fr.zu (M := M) (c := 2) (by decide)).tr (Fr.zu (M := (zu M.1 2 n _, M.2)) (c := 1) (by decide)), ?_, ?_⟩
  · rw [f_X10_addWord_3, if_neg hs, hT.1, if_neg (nI_pos (by omega)), (ST.a hS (o := 1) (k := 0) (a := 2) (by decide)), z_rd_eq, ln2, if_neg (show ¬ Int32.ofNat 260 ≤ nI n from nI_ge (b := 260) hn (by omega)), z_rd_eq, ln2, if_pos (by rw [z_ixN (by omega)]; exact hn), zl_eq, nI_clamp (by omega), byt_and, zl_eq, f_X10_addWord_52, zl_eq]
    show f_X10_addWord_3 1 w m (s + -8) (zu (zu M.1 2 n (nI (byt (w >>> (s &&& 31))))) 1 1 (zu M.1 2 n (nI (byt (w >>> (s &&& 31)))) 1 1 + 1), M.2) = _
    rw [zu_cell _ _ _ (show (1 : Nat) ≠ 2 by decide), hT.1, nI_1]
  · exact zu_same (zu M.1 2 n (nI (byt (w >>> (s &&& 31))))) 1 1 _
  · intro k hk
    show zu (zu M.1 2 n (nI (byt (w >>> (s &&& 31))))) 1 1 (nI (n + 1)) 2 k = _
    rw [zu_cell _ _ _ (show (2 : Nat) ≠ 1 by decide), zu_self]
    by_cases e : k = n
    · rw [e, va_eq, va_eq]
    · rw [va_ne e, va_ne e]; exact hT.2 k hk
def wrd (B : Nat → Nat) (n : Nat) (w : Int32) : Nat → Nat := va_up (va_up (va_up (va_up B n (byt (w >>> 24))) (n + 1) (byt (w >>> 16))) (n + 2) (byt (w >>> 8))) (n + 3) (byt (w >>> 0))
theorem c_addWord {M : zM} {n : Nat} {B : Nat → Nat} {w : Int32} (hS : ST M) (hT : TC M n B) (hn : n + 4 ≤ 260) : ∃ M', f_X10_addWord 1 w M = some ((), M') ∧ Fr [1, 2] M M' ∧ TC M' (n + 4) (wrd B n w) := by
  obtain ⟨M1, h1, f1, t1⟩ := c_aw (w := w) (s := 24) (m := 999) hS hT (by omega) (by decide)
  obtain ⟨M2, h2, f2, t2⟩ := c_aw (w := w) (s := 16) (m := 998) (f1.st hS) t1 (by omega) (by decide)
  obtain ⟨M3, h3, f3, t3⟩ := c_aw (w := w) (s := 8) (m := 997) (f2.st (f1.st hS)) t2 (by omega) (by decide)
  obtain ⟨M4, h4, f4, t4⟩ := c_aw (w := w) (s := 0) (m := 996) (f3.st (f2.st (f1.st hS))) t3 (by omega) (by decide)
  refine ⟨M4, ?_, ((f1.tr f2).tr f3).tr f4, t4⟩
  rw [f_X10_addWord]
  refine h1.trans (h2.trans (h3.trans (h4.trans ?_)))
  rw [f_X10_addWord_3, if_pos (by decide)]
theorem m_ty {M : zM} {n m : Nat} {B : Nat → Nat} {w s : Int32} (hS : ST M) (hT : TM M n B) (hn : n < 260) (hs : ¬ s < 0) : ∃ M', f_X12_types_2 54 w (m + 1) s M = f_X12_types_2 54 w m (s + (-1)) M' ∧ Fr [54, 58] M M' ∧ TM M' (n + 1) (va_up B n (byt (w >>> ((8 * s) &&& 31)))) ∧ (∀ j, j ≠ 4 → M'.1 54 j = M.1 54 j) := by
  refine ⟨(zu (zu M.1 58 n (sb_b (byt (w >>> ((8 * s) &&& 31))))) 54 4 (nI (n + 1)), M.2), ?_, (Fr.zu (M := M) (c := 58) (by decide)).tr (Fr.zu (M := (zu M.1 58 n _, M.2)) (c := 54) (by decide)), ⟨?_, ?_⟩, ?_⟩
  · rw [f_X12_types_2, if_neg hs, (ST.a hS (o := 54) (k := 3) (a := 58) (by decide)), z_rd_eq, hT.1, ln58, if_pos (by rw [z_ixN (by omega)]; exact hn), zl_eq, nI_clamp (by omega), byt_sb, zl_eq, zl_eq]
    show f_X12_types_2 54 w m (s + -1) (zu (zu M.1 58 n (sb_b (byt (w >>> ((8 * s) &&& 31))))) 54 4 (zu M.1 58 n (sb_b (byt (w >>> ((8 * s) &&& 31)))) 54 4 + 1), M.2) = _
    rw [zu_cell _ _ _ (show (54 : Nat) ≠ 58 by decide), hT.1, nI_1]
  · exact zu_same (zu M.1 58 n (sb_b (byt (w >>> ((8 * s) &&& 31))))) 54 4 _
  · intro k hk
    show zu (zu M.1 58 n (sb_b (byt (w >>> ((8 * s) &&& 31))))) 54 4 (nI (n + 1)) 58 k = _
    rw [zu_cell _ _ _ (show (58 : Nat) ≠ 54 by decide), zu_self]
    by_cases e : k = n
    · rw [e, va_eq, va_eq]
    · rw [va_ne e, va_ne e]; exact hT.2 k hk
  · intro j hj
    show zu (zu M.1 58 n (sb_b (byt (w >>> ((8 * s) &&& 31))))) 54 4 (nI (n + 1)) 54 j = _
    rw [zu_ne _ _ _ hj, zu_cell _ _ _ (show (54 : Nat) ≠ 58 by decide)]
theorem m_types {M : zM} {n : Nat} {B : Nat → Nat} {w : Int32} (hS : ST M) (hT : TM M n B) (hn : n + 4 ≤ 260) : ∃ M', f_X12_types 54 w M = some ((), M') ∧ Fr [54, 58] M M' ∧ TM M' (n + 4) (wrd B n w) ∧ (∀ j, j ≠ 4 → M'.1 54 j = M.1 54 j) := by
  obtain ⟨M1, h1, f1, t1, g1⟩ := m_ty (w := w) (s := 3) (m := 999) hS hT (by omega) (by decide)
  obtain ⟨M2, h2, f2, t2, g2⟩ := m_ty (w := w) (s := 2) (m := 998) (f1.st hS) t1 (by omega) (by decide)
  obtain ⟨M3, h3, f3, t3, g3⟩ := m_ty (w := w) (s := 1) (m := 997) (f2.st (f1.st hS)) t2 (by omega) (by decide)
  obtain ⟨M4, h4, f4, t4, g4⟩ := m_ty (w := w) (s := 0) (m := 996) (f3.st (f2.st (f1.st hS))) t3 (by omega) (by decide)
  refine ⟨M4, ?_, ((f1.tr f2).tr f3).tr f4, t4, fun j hj => by rw [g4 j hj, g3 j hj, g2 j hj, g1 j hj]⟩
  rw [f_X12_types]
  refine h1.trans (h2.trans (h3.trans (h4.trans ?_)))
  rw [f_X12_types_2, if_pos (by decide)]
theorem TC.to {M M' : zM} {n : Nat} {B : Nat → Nat} (h : TC M n B) (e0 : M'.1 1 1 = M.1 1 1) (e1 : M'.1 2 = M.1 2) : TC M' n B := by unfold TC; rw [e0, e1]; exact h
theorem TM.to {M M' : zM} {n : Nat} {B : Nat → Nat} (h : TM M n B) (e0 : M'.1 54 4 = M.1 54 4) (e1 : M'.1 58 = M.1 58) : TM M' n B := by unfold TM; rw [e0, e1]; exact h
theorem wrd_lt {B : Nat → Nat} {n : Nat} {w : Int32} (h : ∀ k, k < 260 → B k < 256) : ∀ k, k < 260 → wrd B n w k < 256 := by
  intro k hk
  unfold wrd
  by_cases e3 : k = n + 3
  · rw [e3, va_eq]; exact byt_lt _
  rw [va_ne e3]
  by_cases e2 : k = n + 2
  · rw [e2, va_eq]; exact byt_lt _
  rw [va_ne e2]
  by_cases e1 : k = n + 1
  · rw [e1, va_eq]; exact byt_lt _
  rw [va_ne e1]
  by_cases e0 : k = n
  · rw [e0, va_eq]; exact byt_lt _
  rw [va_ne e0]
  exact h k hk
theorem p_feed : ok_feed Inv := by
  intro M hI a b c d e
  obtain ⟨N, K, hS, hR, hN, hC, hK, hT, hL⟩ := id hI
  obtain ⟨n, B, q1, q2, q3, q4⟩ := hT.get
  by_cases hn : n + 20 ≤ 260
  · have hC0 : TC M n B := ⟨q2, fun k hk => (q4 k hk).2.1⟩
    obtain ⟨M1, h1, f1, t1⟩ := c_addWord (w := a) hS hC0 (by omega)
    have s1 := f1.st hS
    obtain ⟨M2, h2, f2, t2⟩ := c_addWord (w := b) s1 t1 (by omega)
    have s2 := f2.st s1
    obtain ⟨M3, h3, f3, t3⟩ := c_addWord (w := c) s2 t2 (by omega)
    have s3 := f3.st s2
    obtain ⟨M4, h4, f4, t4⟩ := c_addWord (w := d) s3 t3 (by omega)
    have s4 := f4.st s3
    obtain ⟨M5, h5, f5, t5⟩ := c_addWord (w := e) s4 t4 (by omega)
    have s5 := f5.st s4
    have fC : Fr [1, 2] M M5 := (((f1.tr f2).tr f3).tr f4).tr f5
    have hM0 : TM M5 n B := ⟨by rw [fC.1 54 (by decide)]; exact q3, fun k hk => by rw [fC.1 58 (by decide)]; exact (q4 k hk).2.2⟩
    obtain ⟨L1, k1, g1, u1, j1⟩ := m_types (w := a) s5 hM0 (by omega)
    have z1 := g1.st s5
    obtain ⟨L2, k2, g2, u2, j2⟩ := m_types (w := b) z1 u1 (by omega)
    have z2 := g2.st z1
    obtain ⟨L3, k3, g3, u3, j3⟩ := m_types (w := c) z2 u2 (by omega)
    have z3 := g3.st z2
    obtain ⟨L4, k4, g4, u4, j4⟩ := m_types (w := d) z3 u3 (by omega)
    have z4 := g4.st z3
    obtain ⟨L5, k5, g5, u5, j5⟩ := m_types (w := e) z4 u4 (by omega)
    have fM : Fr [54, 58] M5 L5 := (((g1.tr g2).tr g3).tr g4).tr g5
    have hl : ∀ k, k < 260 → wrd (wrd (wrd (wrd (wrd B n a) (n + 4) b) (n + 4 + 4) c) (n + 4 + 4 + 4) d) (n + 4 + 4 + 4 + 4) e k < 256 := wrd_lt (wrd_lt (wrd_lt (wrd_lt (wrd_lt (fun k hk => (q4 k hk).1)))))
    have f54 : ∀ j, j ≠ 4 → L5.1 54 j = M.1 54 j := fun j hj => by rw [j5 j hj, j4 j hj, j3 j hj, j2 j hj, j1 j hj, fC.1 54 (by decide)]
    refine ⟨nI (n + 20), M5, L5, ?_, ?_, ?_⟩
    · rw [f_X11_feed, (ST.a hS (o := 0) (k := 0) (a := 1) (by decide)), z_rd_eq, f_X10_hasSpace, q2, show (20 : Int32) = nI 20 from rfl, nI_add, if_neg (show ¬ (260 : Int32) < nI (n + 20) from nI_nlt (a := 260) (by omega) (by omega)), z_call_eq, if_neg (by decide), (ST.a hS (o := 0) (k := 0) (a := 1) (by decide)), z_rd_eq, h1, z_call_eq, (ST.a s1 (o := 0) (k := 0) (a := 1) (by decide)), z_rd_eq, h2, z_call_eq, (ST.a s2 (o := 0) (k := 0) (a := 1) (by decide)), z_rd_eq, h3, z_call_eq, (ST.a s3 (o := 0) (k := 0) (a := 1) (by decide)), z_rd_eq, h4, z_call_eq, (ST.a s4 (o := 0) (k := 0) (a := 1) (by decide)), z_rd_eq, h5, z_call_eq, (ST.a s5 (o := 0) (k := 0) (a := 1) (by decide)), z_rd_eq, t5.1]
    · rw [f_X12_feed, hM0.1, show (20 : Int32) = nI 20 from rfl, nI_add, if_pos (show nI (n + 20) ≤ (260 : Int32) from (nI_leI (a := n + 20) (b := 260) (by omega) (by omega)).mpr hn), k1, z_call_eq, k2, z_call_eq, k3, z_call_eq, k4, z_call_eq, k5, z_call_eq, u5.1]
    · have e1 : L5.1 1 = M5.1 1 := fM.1 1 (by decide)
      have e2 : L5.1 2 = M5.1 2 := fM.1 2 (by decide)
      have hT5 : TP L5 := TP.put (n := n + 20) hn (by rw [e1]; exact t5.1) u5.1 (B := wrd (wrd (wrd (wrd (wrd B n a) (n + 4) b) (n + 4 + 4) c) (n + 4 + 4 + 4) d) (n + 4 + 4 + 4 + 4) e) (fun k hk => ⟨hl k hk, by rw [e2]; exact t5.2 k hk, u5.2 k hk⟩)
      have fA : Fr [1, 2, 54, 58] M L5 := (fC.mono (by decide)).tr (fM.mono (by decide))
      have ee : ∀ c, c ∉ [1, 2, 54, 58] → L5.1 c = M.1 c := fA.1
      refine ⟨N, K, fA.st hS, hR, hN.to (ee 55 (by decide)), hC.to (fun c q1 q2 => ee c (by simp; omega)), hK.to (by rw [ee 0 (by decide)]) (f54 41 (by decide)) (ee 57 (by decide)) (fun c h1 h2 => ee c (by simp; omega)), hT5, hL.to (by rw [fA.2]) (by rw [fA.2]) ?_ ⟨ee 65 (by decide), ee 66 (by decide), ee 67 (by decide), ee 68 (by decide), ee 69 (by decide)⟩ (f54 13 (by decide))⟩
      intro q hq
      rcases hq with rfl | rfl
      · rw [ee 21 (by decide)]
        exact ⟨rfl, rfl, ee 22 (by decide), ee 23 (by decide), ee 24 (by decide), ee 25 (by decide), ee 26 (by decide), ee 27 (by decide)⟩
      · rw [ee 29 (by decide)]
        exact ⟨rfl, rfl, ee 30 (by decide), ee 31 (by decide), ee 32 (by decide), ee 33 (by decide), ee 34 (by decide), ee 35 (by decide)⟩
  · refine ⟨-1, M, M, ?_, ?_, hI⟩
    · rw [f_X11_feed, (ST.a hS (o := 0) (k := 0) (a := 1) (by decide)), z_rd_eq, f_X10_hasSpace, q2, show (20 : Int32) = nI 20 from rfl, nI_add, if_pos (show (260 : Int32) < nI (n + 20) from (nI_ltI (a := 260) (b := n + 20) (by omega) (by omega)).mpr (by omega)), z_call_eq, if_pos rfl]
    · rw [f_X12_feed, q3, show (20 : Int32) = nI 20 from rfl, nI_add, if_neg (show ¬ nI (n + 20) ≤ (260 : Int32) from fun h => hn ((nI_leI (a := n + 20) (b := 260) (by omega) (by omega)).mp h))]
