/-! the changes of a shaft -/
def shc (o : Nat) : List Nat := [o, o + 1, o + 2, o + 3, o + 4, o + 5]
theorem NR.lou {N : Nat → Nat} (hR : NR N) {k v : Nat} (h1 : 72 ≤ k) (h2 : k < 96) (hv : v ≤ 2) : NR (va_up N k v) := by
  obtain ⟨r1, r2, r3, r4, r5, r6, r7, r8, r9, r10⟩ := hR
  refine ⟨fun r hr => ?_, fun r hr => ?_, fun r hr => ?_, fun r hr => ?_, fun r hr => ?_, fun r hr => ?_, ?_, ?_, ?_, fun r hr => ?_⟩
  · rw [va_ne (by omega)]; exact r1 r hr
  · rw [va_ne (by omega)]; exact r2 r hr
  · rw [va_ne (by omega)]; exact r3 r hr
  · by_cases e : 72 + r = k
    · rw [e, va_eq]; exact hv
    · rw [va_ne e]; exact r4 r hr
  · rw [va_ne (by omega)]; exact r5 r hr
  · rw [va_ne (by omega)]; exact r6 r hr
  · rw [va_ne (by omega)]; exact r7
  · rw [va_ne (by omega)]; exact r8
  · rw [va_ne (by omega)]; exact r9
  · rw [va_ne (by omega), va_ne (by omega)]; exact r10 r hr
theorem NR.opn {N : Nat → Nat} (hR : NR N) {k v : Nat} (h1 : 48 ≤ k) (h2 : k < 72) (hv : v ≤ 1) : NR (va_up N k v) := by
  obtain ⟨r1, r2, r3, r4, r5, r6, r7, r8, r9, r10⟩ := hR
  refine ⟨fun r hr => ?_, fun r hr => ?_, fun r hr => ?_, fun r hr => ?_, fun r hr => ?_, fun r hr => ?_, ?_, ?_, ?_, fun r hr => ?_⟩
  · rw [va_ne (by omega)]; exact r1 r hr
  · rw [va_ne (by omega)]; exact r2 r hr
  · by_cases e : 48 + r = k
    · rw [e, va_eq]; exact hv
    · rw [va_ne e]; exact r3 r hr
  · rw [va_ne (by omega)]; exact r4 r hr
  · rw [va_ne (by omega)]; exact r5 r hr
  · rw [va_ne (by omega)]; exact r6 r hr
  · rw [va_ne (by omega)]; exact r7
  · rw [va_ne (by omega)]; exact r8
  · rw [va_ne (by omega)]; exact r9
  · rw [va_ne (by omega), va_ne (by omega)]; exact r10 r hr
theorem NR.gre {N : Nat → Nat} (hR : NR N) {k v : Nat} (h1 : 96 ≤ k) (h2 : k < 120) (hv : v ≤ 99999) : NR (va_up N k v) := by
  obtain ⟨r1, r2, r3, r4, r5, r6, r7, r8, r9, r10⟩ := hR
  refine ⟨fun r hr => ?_, fun r hr => ?_, fun r hr => ?_, fun r hr => ?_, fun r hr => ?_, fun r hr => ?_, ?_, ?_, ?_, fun r hr => ?_⟩
  · rw [va_ne (by omega)]; exact r1 r hr
  · rw [va_ne (by omega)]; exact r2 r hr
  · rw [va_ne (by omega)]; exact r3 r hr
  · rw [va_ne (by omega)]; exact r4 r hr
  · by_cases e : 96 + r = k
    · rw [e, va_eq]; exact hv
    · rw [va_ne e]; exact r5 r hr
  · rw [va_ne (by omega)]; exact r6 r hr
  · rw [va_ne (by omega)]; exact r7
  · rw [va_ne (by omega)]; exact r8
  · rw [va_ne (by omega)]; exact r9
  · rw [va_ne (by omega), va_ne (by omega)]; exact r10 r hr
theorem NR.fel {N : Nat → Nat} (hR : NR N) {k v : Nat} (h1 : 120 ≤ k) (h2 : k < 696) (hv : v ≤ 99999) : NR (va_up N k v) := by
  obtain ⟨r1, r2, r3, r4, r5, r6, r7, r8, r9, r10⟩ := hR
  refine ⟨fun r hr => ?_, fun r hr => ?_, fun r hr => ?_, fun r hr => ?_, fun r hr => ?_, fun r hr => ?_, ?_, ?_, ?_, fun r hr => ?_⟩
  · rw [va_ne (by omega)]; exact r1 r hr
  · rw [va_ne (by omega)]; exact r2 r hr
  · rw [va_ne (by omega)]; exact r3 r hr
  · rw [va_ne (by omega)]; exact r4 r hr
  · rw [va_ne (by omega)]; exact r5 r hr
  · by_cases e : 120 + r = k
    · rw [e, va_eq]; exact hv
    · rw [va_ne e]; exact r6 r hr
  · rw [va_ne (by omega)]; exact r7
  · rw [va_ne (by omega)]; exact r8
  · rw [va_ne (by omega)]; exact r9
  · rw [va_ne (by omega), va_ne (by omega)]; exact r10 r hr
theorem NR.cow {N : Nat → Nat} (hR : NR N) {v : Nat} (hv : v ≤ 999999) : NR (va_up N 696 v) := by
  obtain ⟨r1, r2, r3, r4, r5, r6, r7, r8, r9, r10⟩ := hR
  refine ⟨fun r hr => ?_, fun r hr => ?_, fun r hr => ?_, fun r hr => ?_, fun r hr => ?_, fun r hr => ?_, ?_, ?_, ?_, fun r hr => ?_⟩
  · rw [va_ne (by omega)]; exact r1 r hr
  · rw [va_ne (by omega)]; exact r2 r hr
  · rw [va_ne (by omega)]; exact r3 r hr
  · rw [va_ne (by omega)]; exact r4 r hr
  · rw [va_ne (by omega)]; exact r5 r hr
  · rw [va_ne (by omega)]; exact r6 r hr
  · rw [va_eq]; exact hv
  · rw [va_ne (by omega)]; exact r8
  · rw [va_ne (by omega)]; exact r9
  · rw [va_ne (by omega), va_ne (by omega)]; exact r10 r hr
theorem NR.hou {N : Nat → Nat} (hR : NR N) {v : Nat} (hv : v ≤ 99999) : NR (va_up N 697 v) := by
  obtain ⟨r1, r2, r3, r4, r5, r6, r7, r8, r9, r10⟩ := hR
  refine ⟨fun r hr => ?_, fun r hr => ?_, fun r hr => ?_, fun r hr => ?_, fun r hr => ?_, fun r hr => ?_, ?_, ?_, ?_, fun r hr => ?_⟩
  · rw [va_ne (by omega)]; exact r1 r hr
  · rw [va_ne (by omega)]; exact r2 r hr
  · rw [va_ne (by omega)]; exact r3 r hr
  · rw [va_ne (by omega)]; exact r4 r hr
  · rw [va_ne (by omega)]; exact r5 r hr
  · rw [va_ne (by omega)]; exact r6 r hr
  · rw [va_ne (by omega)]; exact r7
  · rw [va_eq]; exact hv
  · rw [va_ne (by omega)]; exact r9
  · rw [va_ne (by omega), va_ne (by omega)]; exact r10 r hr
theorem NR.lot {N : Nat → Nat} (hR : NR N) {v : Nat} (hv : v ≤ 65535) : NR (va_up N 698 v) := by
  obtain ⟨r1, r2, r3, r4, r5, r6, r7, r8, r9, r10⟩ := hR
  refine ⟨fun r hr => ?_, fun r hr => ?_, fun r hr => ?_, fun r hr => ?_, fun r hr => ?_, fun r hr => ?_, ?_, ?_, ?_, fun r hr => ?_⟩
  · rw [va_ne (by omega)]; exact r1 r hr
  · rw [va_ne (by omega)]; exact r2 r hr
  · rw [va_ne (by omega)]; exact r3 r hr
  · rw [va_ne (by omega)]; exact r4 r hr
  · rw [va_ne (by omega)]; exact r5 r hr
  · rw [va_ne (by omega)]; exact r6 r hr
  · rw [va_ne (by omega)]; exact r7
  · rw [va_ne (by omega)]; exact r8
  · rw [va_eq]; exact hv
  · rw [va_ne (by omega), va_ne (by omega)]; exact r10 r hr
/-- a shaft behind a change of one cell -/
theorem CS.one {M : zM} {o c j : Nat} {v : Int32} {N N' : Nat → Nat} (hC : CS M o N)
    (k1 : ∀ r, r < 24 → (if o + 1 = c ∧ r = j then v else nI (N (24 + r))) = nI (N' (24 + r)))
    (k2 : ∀ r, r < 24 → (if o + 2 = c ∧ r = j then v else nI (N (72 + r))) = nI (N' (72 + r)))
    (k3 : ∀ r, r < 24 → (if o + 3 = c ∧ r = j then v else nI (N (96 + r))) = nI (N' (96 + r)))
    (k4 : ∀ k, k < 576 → (if o + 4 = c ∧ k = j then v else nI (N (120 + k))) = nI (N' (120 + k)))
    (k5 : ∀ r, r < 24 → (if o + 5 = c ∧ r = j then v else nI (g_sum N (120 + 24 * r) 24)) = nI (g_sum N' (120 + 24 * r) 24))
    (k6 : (if o = c ∧ 5 = j then v else nI (g_bits N 0 24)) = nI (g_bits N' 0 24))
    (k7 : (if o = c ∧ 6 = j then v else nI (g_bits N 48 24)) = nI (g_bits N' 48 24))
    (k8 : (if o = c ∧ 7 = j then v else nI (N 696)) = nI (N' 696))
    (k9 : (if o = c ∧ 8 = j then v else nI (N 697)) = nI (N' 697))
    (k10 : (if o = c ∧ 9 = j then v else nI (N 698)) = nI (N' 698)) : CS (zu M.1 c j v, M.2) o N' := by
  obtain ⟨h1, h2, h3, h4, h5, h6, h7, h8, h9, h10⟩ := hC
  refine ⟨fun r hr => ?_, fun r hr => ?_, fun r hr => ?_, fun r hr => ?_, fun r hr => ?_, ?_, ?_, ?_, ?_, ?_⟩ <;> (show zu M.1 c j v _ _ = _; rw [zu_at])
  · rw [h1 r hr]; exact k1 r hr
  · rw [h2 r hr]; exact k2 r hr
  · rw [h3 r hr]; exact k3 r hr
  · rw [h4 r hr]; exact k4 r hr
  · rw [h5 r hr]; exact k5 r hr
  · rw [h6]; exact k6
  · rw [h7]; exact k7
  · rw [h8]; exact k8
  · rw [h9]; exact k9
  · rw [h10]; exact k10
theorem CS.lou {M : zM} {o j s : Nat} {N : Nat → Nat} (hC : CS M o N) (hj : j < 24) : CS (zu M.1 (o + 2) j (nI s), M.2) o (va_up N (72 + j) s) := by
  refine hC.one (fun r hr => ?_) (fun r hr => ?_) (fun r hr => ?_) (fun r hr => ?_) (fun r hr => ?_) ?_ ?_ ?_ ?_ ?_
  · rw [if_neg (by omega), va_ne (by omega)]
  · by_cases e : r = j
    · rw [if_pos ⟨rfl, e⟩, e, va_eq]
    · rw [if_neg (by omega), va_ne (by omega)]
  · rw [if_neg (by omega), va_ne (by omega)]
  · rw [if_neg (by omega), va_ne (by omega)]
  · rw [if_neg (by omega), g_sum_congr (N := N) (fun k hk => va_ne (by omega))]
  · rw [if_neg (by omega), g_bits_congr (N := N) (fun k hk => va_ne (by omega))]
  · rw [if_neg (by omega), g_bits_congr (N := N) (fun k hk => va_ne (by omega))]
  · rw [if_neg (by omega), va_ne (by omega)]
  · rw [if_neg (by omega), va_ne (by omega)]
  · rw [if_neg (by omega), va_ne (by omega)]
theorem CS.opn {M : zM} {o j s : Nat} {N : Nat → Nat} (hC : CS M o N) (hj : j < 24) : CS (zu M.1 o 6 (nI (g_bits (va_up N (48 + j) s) 48 24)), M.2) o (va_up N (48 + j) s) := by
  refine hC.one (fun r hr => ?_) (fun r hr => ?_) (fun r hr => ?_) (fun r hr => ?_) (fun r hr => ?_) ?_ ?_ ?_ ?_ ?_
  · rw [if_neg (by omega), va_ne (by omega)]
  · rw [if_neg (by omega), va_ne (by omega)]
  · rw [if_neg (by omega), va_ne (by omega)]
  · rw [if_neg (by omega), va_ne (by omega)]
  · rw [if_neg (by omega), g_sum_congr (N := N) (fun k hk => va_ne (by omega))]
  · rw [if_neg (by omega), g_bits_congr (N := N) (fun k hk => va_ne (by omega))]
  · rw [if_pos ⟨rfl, rfl⟩]
  · rw [if_neg (by omega), va_ne (by omega)]
  · rw [if_neg (by omega), va_ne (by omega)]
  · rw [if_neg (by omega), va_ne (by omega)]
theorem eq_bits {x y : Nat} (hx : x < 2 ^ 24) (hy : y < 2 ^ 24) (h : ∀ i, i < 24 → x.testBit i = y.testBit i) : x = y := by
  apply Nat.eq_of_testBit_eq
  intro i
  by_cases hi : i < 24
  · exact h i hi
  · rw [Nat.testBit_lt_two_pow (Nat.lt_of_lt_of_le hx (Nat.pow_le_pow_right (by omega) (by omega))), Nat.testBit_lt_two_pow (Nat.lt_of_lt_of_le hy (Nat.pow_le_pow_right (by omega) (by omega)))]
/-- a bit set -/
theorem bits_set {N : Nat → Nat} {b j : Nat} (h : ∀ k, k < 24 → N (b + k) ≤ 1) (hj : j < 24) : g_bits N b 24 ||| 2 ^ j = g_bits (va_up N (b + j) 1) b 24 := by
  have h' : ∀ k, k < 24 → va_up N (b + j) 1 (b + k) ≤ 1 := fun k hk => by
    by_cases e : k = j
    · rw [e, va_eq]; exact Nat.le_refl _
    · rw [va_ne (by omega)]; exact h k hk
  refine eq_bits (Nat.or_lt_two_pow (g_bits_lt h) (Nat.pow_lt_pow_right (by omega) hj)) (g_bits_lt h') (fun i hi => ?_)
  rw [Nat.testBit_or, g_bits_test h i hi, g_bits_test h' i hi]
  by_cases e : i = j
  · rw [e, va_eq, Nat.testBit_two_pow_self, Bool.or_true]; rfl
  · rw [va_ne (by omega), Nat.testBit_two_pow_of_ne (Ne.symm e), Bool.or_false]
/-- a bit cleared -/
theorem bits_clr {N : Nat → Nat} {b j : Nat} (h : ∀ k, k < 24 → N (b + k) ≤ 1) (hj : j < 24) : nI (g_bits N b 24) &&& (nI (2 ^ j) ^^^ (-1)) = nI (g_bits (va_up N (b + j) 0) b 24) := by
  have h' : ∀ k, k < 24 → va_up N (b + j) 0 (b + k) ≤ 1 := fun k hk => by
    by_cases e : k = j
    · rw [e, va_eq]; exact Nat.zero_le _
    · rw [va_ne (by omega)]; exact h k hk
  have g1 := g_bits_lt h
  have g2 := g_bits_lt h'
  apply Int32.toBitVec_inj.mp
  show BitVec.ofNat 32 _ &&& (BitVec.ofNat 32 _ ^^^ BitVec.allOnes 32) = BitVec.ofNat 32 _
  apply BitVec.eq_of_getLsbD_eq
  intro i hi
  simp only [BitVec.getLsbD_and, BitVec.getLsbD_xor, BitVec.getLsbD_ofNat, BitVec.getLsbD_allOnes, hi, decide_true, Bool.true_and]
  by_cases h24 : i < 24
  · rw [g_bits_test h i h24, g_bits_test h' i h24]
    by_cases e : i = j
    · rw [e, va_eq, Nat.testBit_two_pow_self]; simp
    · rw [va_ne (by omega), Nat.testBit_two_pow_of_ne (Ne.symm e)]; simp
  · rw [Nat.testBit_lt_two_pow (Nat.lt_of_lt_of_le g1 (Nat.pow_le_pow_right (by omega) (by omega))), Nat.testBit_lt_two_pow (Nat.lt_of_lt_of_le g2 (Nat.pow_le_pow_right (by omega) (by omega)))]
    simp
theorem c_setLouvre {M : zM} {o j s : Nat} {N : Nat → Nat} (hO : SO o) (hS : ST M) (hC : CS M o N) (hj : j < 24) : f_X8_setLouvre o (nI j) (nI s) M = some ((), (zu M.1 (o + 2) j (nI s), M.2)) := by
  obtain ⟨l1, l2, l3, l4, l5⟩ := hO.lns
  obtain ⟨r1, r2, r3, r4, r5⟩ := hO.rs hS
  rw [f_X8_setLouvre, e_room hj, z_call_eq, if_neg (by decide), r2, z_rd_eq, if_pos (by rw [z_ixN (by omega), l2]; exact hj), zl_eq, nI_clamp (by omega)]
theorem c_setGrille {M : zM} {o j s : Nat} {N : Nat → Nat} (hC : CS M o N) (hR : NR N) (hj : j < 24) (hs : s ≤ 1) : f_X8_setGrille o (nI j) (nI s) M = some ((), (zu M.1 o 6 (nI (g_bits (va_up N (48 + j) s) 48 24)), M.2)) := by
  have c7 := hC.2.2.2.2.2.2.1
  rw [f_X8_setGrille, e_room hj, z_call_eq, if_neg (by decide), nI_bit j (by omega), c7]
  rcases (show s = 0 ∨ s = 1 by omega) with rfl | rfl
  · rw [if_pos n0, bits_clr hR.2.2.1 hj, f_X8_setGrille_33, zl_eq]
  · rw [if_neg (by decide), nI_or, bits_set hR.2.2.1 hj, f_X8_setGrille_33, zl_eq]
theorem p_louvre : ok_louvre Inv := by
  intro M hI a b
  obtain ⟨N, K, hS, hR, hN, hC, hK, hT, hL⟩ := id hI
  rcases room_cases a with ⟨j, hj, rfl⟩ | ha
  · rcases f_in_cases b 2 (by omega) with ⟨s, hs, rfl⟩ | hb
    · have hS1 : ST (zu M.1 5 j (nI s), M.2) := hS.to rfl
      have hN1 : MN (zu M.1 5 j (nI s), M.2) 55 N := hN.off (by decide)
      refine ⟨1, (zu M.1 5 j (nI s), M.2), (zu (zu M.1 5 j (nI s)) 55 (72 + j) (nI s), M.2), ?_, ?_, ?_⟩
      · rw [f_X11_louvre, e_room hj, z_call_eq, if_neg (by decide), e_within, show (2 : Int32) = nI 2 from rfl, e_in1 (by omega) hs, z_call_eq, if_neg (by decide), (ST.a hS (o := 0) (k := 1) (a := 3) (by decide)), z_rd_eq, c_setLouvre hO3 hS hC hj, z_call_eq]
      · rw [f_X12_louvre, e_room2 hj, z_call_eq, if_neg (by decide), show (2 : Int32) = nI 2 from rfl, e_in1 (by omega) hs, z_call_eq, if_neg (by decide), (ST.a hS1 (o := 54) (k := 0) (a := 55) (by decide)), z_rd_eq, show (72 : Int32) = nI 72 from rfl, nI_add, if_pos (by rw [z_ixN (by omega), ln55]; omega), zl_eq, nI_clamp (by omega)]
      · refine Inv.of hS hK hT hL ((Fr.zu (M := M) (c := 5) (by decide)).tr (Fr.zu (M := (zu M.1 5 j (nI s), M.2)) (c := 55) (by decide))) (N' := va_up N (72 + j) s) (hR.lou (by omega) (by omega) hs) (MN.set (M := (zu M.1 5 j (nI s), M.2)) hN1) ?_
        exact CS.off (hC.lou hj) (by omega)
    · refine ⟨0, M, M, ?_, ?_, hI⟩
      · rw [f_X11_louvre, e_room hj, z_call_eq, if_neg (by decide), e_within, show (2 : Int32) = nI 2 from rfl, e_in0 (by omega) hb, z_call_eq, if_pos rfl]
      · rw [f_X12_louvre, e_room2 hj, z_call_eq, if_neg (by decide), show (2 : Int32) = nI 2 from rfl, e_in0 (by omega) hb, z_call_eq, if_pos rfl]
  · refine ⟨0, M, M, ?_, ?_, hI⟩
    · rw [f_X11_louvre, (ha M).1, z_call_eq, if_pos rfl]
    · rw [f_X12_louvre, (ha M).2, z_call_eq, if_pos rfl]
theorem p_grille : ok_grille Inv := by
  intro M hI a b hb
  obtain ⟨N, K, hS, hR, hN, hC, hK, hT, hL⟩ := id hI
  rcases room_cases a with ⟨j, hj, rfl⟩ | ha
  · obtain ⟨s, hs, rfl⟩ : ∃ s, s ≤ 1 ∧ b = nI s := by
      rcases hb with rfl | rfl
      · exact ⟨0, by omega, rfl⟩
      · exact ⟨1, by omega, rfl⟩
    generalize hg : nI (g_bits (va_up N (48 + j) s) 48 24) = g
    have hS1 : ST (zu M.1 3 6 g, M.2) := hS.to rfl
    have hN1 : MN (zu M.1 3 6 g, M.2) 55 N := hN.off (by decide)
    refine ⟨1, (zu M.1 3 6 g, M.2), (zu (zu M.1 3 6 g) 55 (48 + j) (nI s), M.2), ?_, ?_, ?_⟩
    · rw [f_X11_grille, e_room hj, z_call_eq, if_neg (by decide), (ST.a hS (o := 0) (k := 1) (a := 3) (by decide)), z_rd_eq, c_setGrille hC hR hj hs, z_call_eq, hg]
    · rw [f_X12_grille, e_room2 hj, z_call_eq, if_neg (by decide), (ST.a hS1 (o := 54) (k := 0) (a := 55) (by decide)), z_rd_eq, show (48 : Int32) = nI 48 from rfl, nI_add]
      rcases (show s = 0 ∨ s = 1 by omega) with rfl | rfl
      · rw [if_pos n0, f_X12_grille_26, if_pos (by rw [z_ixN (by omega), ln55]; omega), zl_eq, nI_clamp (by omega)]
        rfl
      · rw [if_neg (by decide), f_X12_grille_26, if_pos (by rw [z_ixN (by omega), ln55]; omega), zl_eq, nI_clamp (by omega)]
        rfl
    · refine Inv.of hS hK hT hL ((Fr.zu (M := M) (c := 3) (by decide)).tr (Fr.zu (M := (zu M.1 3 6 g, M.2)) (c := 55) (by decide))) (N' := va_up N (48 + j) s) (hR.opn (by omega) (by omega) hs) (MN.set (M := (zu M.1 3 6 g, M.2)) hN1) ?_
      have := hC.opn (s := s) hj
      rw [hg] at this
      exact CS.off this (by omega)
  · refine ⟨0, M, M, ?_, ?_, hI⟩
    · rw [f_X11_grille, (ha M).1, z_call_eq, if_pos rfl]
    · rw [f_X12_grille, (ha M).2, z_call_eq, if_pos rfl]
