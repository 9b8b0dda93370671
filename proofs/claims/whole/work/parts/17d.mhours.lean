/-! hours in the reference -/
def MA (M : zM) (L : Nat → Nat → Int32) (nr : Nat) (G : (Nat → Nat) × Nat × Nat × Nat) : Prop := ST M ∧ LM M L nr ∧ MN M 55 G.1 ∧ M.1 54 28 = nI G.2.1 ∧ M.1 54 29 = nI G.2.2.1 ∧ M.1 54 30 = nI G.2.2.2
def MF (M M' : zM) : Prop := MX [54, 55, 70, 71] [28, 29, 30] M M'
theorem MF.rf {M : zM} : MF M M := MX.rf
theorem MF.tr {M M1 M2 : zM} (h1 : MF M M1) (h2 : MF M1 M2) : MF M M2 := MX.tr h1 h2
theorem MA.fr {M M' : zM} {nr c : Nat} {L : Nat → Nat → Int32} {G : (Nat → Nat) × Nat × Nat × Nat} (h : MA M L nr G) (hc : c = 70 ∨ c = 71) (hF : Fr [c] M M') : MA M' L nr G ∧ MF M M' := by
  obtain ⟨h1, h2, h3, h4, h5, h6⟩ := h
  have e : ∀ d, d < 70 → M'.1 d = M.1 d := fun d hd => hF.c (by simp; omega)
  refine ⟨⟨hF.st h1, h2.to hF ?_, h3.to (e 55 (by omega)), by rw [e 54 (by omega)]; exact h4, by rw [e 54 (by omega)]; exact h5, by rw [e 54 (by omega)]; exact h6⟩, hF.mono ?_, fun j _ => by rw [e 54 (by omega)]⟩
  · rcases hc with rfl | rfl <;> decide
  · intro d hd
    simp at hd ⊢
    omega
theorem MA.nu {M : zM} {nr k v : Nat} {L : Nat → Nat → Int32} {G : (Nat → Nat) × Nat × Nat × Nat} (h : MA M L nr G) : MA (zu M.1 55 k (nI v), M.2) L nr (va_up G.1 k v, G.2) ∧ MF M (zu M.1 55 k (nI v), M.2) := by
  obtain ⟨h1, h2, h3, h4, h5, h6⟩ := h
  have hF : Fr [55] M (zu M.1 55 k (nI v), M.2) := Fr.zu (by simp)
  have e : (zu M.1 55 k (nI v), M.2).1 54 = M.1 54 := hF.c (by decide)
  exact ⟨⟨hF.st h1, h2.to hF (by decide), h3.set, by rw [e]; exact h4, by rw [e]; exact h5, by rw [e]; exact h6⟩, hF.mono (by decide), fun j _ => by rw [e]⟩
theorem MA.ct {M : zM} {nr j : Nat} {v : Int32} {L : Nat → Nat → Int32} {G : (Nat → Nat) × Nat × Nat × Nat} {c s w : Nat} (h : MA M L nr G) (hj : j ∈ [28, 29, 30]) (e2 : va_up (M.1 54) j v 28 = nI c) (e3 : va_up (M.1 54) j v 29 = nI s) (e4 : va_up (M.1 54) j v 30 = nI w) : MA (zu M.1 54 j v, M.2) L nr (G.1, c, s, w) ∧ MF M (zu M.1 54 j v, M.2) := by
  obtain ⟨h1, h2, h3, h4, h5, h6⟩ := h
  have hX : MF M (zu M.1 54 j v, M.2) := MX.s54 (by simp) hj
  have hF : Fr [54] M (zu M.1 54 j v, M.2) := Fr.zu (by simp)
  refine ⟨⟨hF.st h1, ⟨fun i hi => ?_, (hX.2 13 (by decide)).trans h2.2⟩, h3.to (hF.c (by decide)), by show zu M.1 54 j v 54 28 = _; rw [zu_self]; exact e2, by show zu M.1 54 j v 54 29 = _; rw [zu_self]; exact e3, by show zu M.1 54 j v 54 30 = _; rw [zu_self]; exact e4⟩, hX⟩
  rw [← h2.1 i hi]
  exact hF.c (by simp; omega)
theorem m_cow {M : zM} {n nr left : Nat} {L : Nat → Nat → Int32} {G : (Nat → Nat) × Nat × Nat × Nat} {x : Int32} (hA : MA M L nr G) (hR : NR G.1) (hl : left ≤ 99) : ∃ M', f_X12_rises_9 54 x (n + 1) (nI left) (nI 24) M = some ((), M') ∧ MA M' L nr (gCo G left) ∧ MF M M' := by
  have hx := hR.2.2.2.2.2.2.1
  obtain ⟨h1, h2, h3, h4, h5, h6⟩ := id hA
  obtain ⟨a1, a2⟩ := hA.ct (j := 30) (v := nI (G.2.2.2 + left)) (c := G.2.1) (s := G.2.2.1) (w := G.2.2.2 + left) (by simp) (by rw [va_ne (by omega)]; exact h4) (by rw [va_ne (by omega)]; exact h5) (by rw [va_eq])
  obtain ⟨b1, b2⟩ := a1.nu (k := 696) (v := min 999999 (G.1 696 + left))
  refine ⟨_, ?_, b1, a2.tr b2⟩
  have s1 := a1.1
  rw [f_X12_rises_9, if_pos (by decide), h6, nI_add, zl_eq, (ST.a s1 (o := 54) (k := 0) (a := 55) (by decide)), z_rd_eq, z_rd_eq, ln55, if_pos (by decide), show ((696 : Int32).toNatClampNeg) = 696 from rfl, show (zu M.1 54 30 (nI (G.2.2.2 + left)), M.2).1 55 696 = nI (G.1 696) from a1.2.2.1 696 (by omega), show (999999 : Int32) = nI 999999 from rfl, nI_add, m_min (by omega) (by omega), z_call_eq, if_pos (by decide), zl_eq]
theorem rem65536 {j : Nat} (h : j < 2 ^ 31) : nI j - nI j / 65536 * 65536 = nI (j % 65536) := pk_rem (d := 65536) h (by omega) (by omega)
theorem m_ris_lp {nr r : Nat} {L : Nat → Nat → Int32} (hU : LU L nr) (hr : r < 24) : ∀ m n G left p (M : zM), p ≤ 24 → 6 - p / 4 ≤ m → m < n → MA M L nr G → NR G.1 → left ≤ 99 → ∃ M', f_X12_rises_9 54 (nI r) n (nI left) (nI p) M = some ((), M') ∧ MA M' L nr (gRi L nr r m G left p) ∧ MF M M' := by
  intro m
  induction m with
  | zero =>
    intro n G left p M hp h6 hn hA hR hl
    obtain ⟨n, rfl⟩ : ∃ z, n = z + 1 := ⟨n - 1, by omega⟩
    obtain rfl : p = 24 := by omega
    exact m_cow hA hR hl
  | succ m ih =>
    intro n G left p M hp h6 hn hA hR hl
    obtain ⟨n, rfl⟩ : ∃ z, n = z + 1 := ⟨n - 1, by omega⟩
    rw [gRi]
    by_cases h24 : p = 24
    · subst h24
      rw [if_pos rfl]
      exact m_cow hA hR hl
    · have hp' : p < 24 := by omega
      have hgr := hR.2.2.2.2.1 p hp'
      have nx : ∀ N, abv N p ≤ 24 ∧ 6 - abv N p / 4 ≤ m := fun N => by
        refine ⟨abv_le _, ?_⟩
        by_cases hp20 : p < 20
        · have := abv_lt (N := N) hp20; omega
        · rw [abv_hi (by omega)]; omega
      obtain ⟨M1, i1, i2, i3⟩ := m_asks (r := r) (p := p) (m := left) hA.1 hA.2.2.1 hR hr hp'
      obtain ⟨i4, i5⟩ := hA.fr (Or.inr rfl) i2
      obtain ⟨M2, j1, j2⟩ := m_byLaw (kd := 107) (hi := 99) hU (by decide) i4.1 i4.2.1 i3
      obtain ⟨j3, j4⟩ := i4.fr (Or.inl rfl) j2
      obtain ⟨a, ha, hby⟩ := byL_b (L := L) (fc := fcs G.1 r p left) (kd := 107) (h := 99) (by omega) nr 0
      have hby' : byL L (fcs G.1 r p left) 107 99 nr 0 = nI a := hby
      have hks : gKs L nr G.1 r p left = min left a := by
        unfold gKs
        rw [hby', tn_nI (by omega)]
      obtain ⟨k1, k2⟩ := j3.nu (k := 96 + p) (v := min 99999 (G.1 (96 + p) + min left a))
      obtain ⟨k3, k4⟩ := k1.ct (j := 29) (v := nI (G.2.2.1 + min left a)) (c := G.2.1) (s := G.2.2.1 + min left a) (w := G.2.2.2) (by simp) (by rw [va_ne (by omega)]; exact k1.2.2.2.1) (by rw [va_eq]) (by rw [va_ne (by omega)]; exact k1.2.2.2.2.2)
      have hN1 : va_up G.1 (96 + p) (min 99999 (G.1 (96 + p) + min left a)) = gN1 L nr G.1 r p left := by unfold gN1; rw [hks]
      rw [hN1] at k3
      have R1 : NR (gN1 L nr G.1 r p left) := gN1_R hR hp'
      have F1 := ((i5.tr j4).tr k2).tr k4
      have s2 := j3.1
      have e5 := k1.2.2.2.2.1
      obtain ⟨M4, d4⟩ : ∃ M4 : zM, M4 = (zu (zu M2.1 55 (96 + p) (nI (min 99999 (G.1 (96 + p) + min left a)))) 54 29 (nI (G.2.2.1 + min left a)), M2.2) := ⟨_, rfl⟩
      have k3' : MA M4 L nr (gN1 L nr G.1 r p left, G.2.1, G.2.2.1 + min left a, G.2.2.2) := by rw [d4]; exact k3
      have F1' : MF M M4 := by rw [d4]; exact F1
      have s4 := k3'.1
      rw [f_X12_rises_9, if_neg (show ¬ nI p = (24 : Int32) from fun h => h24 ((nI_eq (b := 24) (by omega) (by omega)).mp h)), i1, z_call_eq, j1, z_call_eq, hby', m_min (by omega) (by omega), z_call_eq, (ST.a s2 (o := 54) (k := 0) (a := 55) (by decide)), z_rd_eq, z_rd_eq, ln55, show (96 + nI p : Int32) = nI (96 + p) by simp only [lit, nI_add], if_pos (by rw [z_ixN (by omega)]; omega), nI_clamp (by omega), j3.2.2.1 (96 + p) (by omega), nI_add, show (99999 : Int32) = nI 99999 from rfl, m_min (by omega) (by omega), z_call_eq, if_pos (by rw [z_ixN (by omega)]; omega), zl_eq, zl_eq, e5, nI_add, zl_eq, nI_sub (by omega), ← d4, if_neg h24, hks]
      by_cases h0 : left - min left a = 0
      · rw [if_pos h0, if_pos (by rw [h0]; rfl)]
        exact ⟨M4, rfl, k3', F1'⟩
      · rw [if_neg h0, if_neg (nI_nz h0 (by omega)), m_takesIn s4 k3'.2.2.1 R1 hp', z_call_eq]
        by_cases ht : tk (gN1 L nr G.1 r p left) p = true
        · obtain ⟨M5, l1, l2, l3⟩ := m_asks (r := r) (p := p) (m := left - min left a) s4 k3'.2.2.1 R1 hr hp'
          obtain ⟨l4, l5⟩ := k3'.fr (Or.inr rfl) l2
          obtain ⟨M6, m1, m2⟩ := m_byLaw (kd := 100) (hi := 10) hU (by decide) l4.1 l4.2.1 l3
          obtain ⟨m3, m4⟩ := l4.fr (Or.inl rfl) m2
          obtain ⟨d, hd, hdy⟩ := byL_b (L := L) (fc := fcs (gN1 L nr G.1 r p left) r p (left - min left a)) (kd := 100) (h := 10) (by omega) nr 0
          have hdy' : byL L (fcs (gN1 L nr G.1 r p left) r p (left - min left a)) 100 10 nr 0 = nI d := hdy
          have hds : gDs L nr (gN1 L nr G.1 r p left) r p (left - min left a) = d := by
            unfold gDs
            rw [hdy', tn_nI (by omega)]
          have hx := R1.2.2.2.2.2.2.2.2.1
          obtain ⟨n1, n2⟩ := m3.nu (k := 698) (v := (25173 * gN1 L nr G.1 r p left 698 + 13849) % 65536)
          have R2 : NR (gLo (gN1 L nr G.1 r p left)) := gLo_R R1
          obtain ⟨M7, d7⟩ : ∃ M7 : zM, M7 = (zu M6.1 55 698 (nI ((25173 * gN1 L nr G.1 r p left 698 + 13849) % 65536)), M6.2) := ⟨_, rfl⟩
          have n1' : MA M7 L nr (gLo (gN1 L nr G.1 r p left), G.2.1, G.2.2.1 + min left a, G.2.2.2) := by rw [d7]; exact n1
          have n2' : MF M6 M7 := by rw [d7]; exact n2
          have F2 := ((F1'.tr l5).tr m4).tr n2'
          have s6 := m3.1
          have s7 := n1'.1
          have q7 : M7.1 55 698 = nI (gLo (gN1 L nr G.1 r p left) 698) := n1'.2.2.1 698 (by omega)
          have h65 : gLo (gN1 L nr G.1 r p left) 698 ≤ 65535 := R2.2.2.2.2.2.2.2.2.1
          have hm : gLo (gN1 L nr G.1 r p left) 698 % 10 < 10 := Nat.mod_lt _ (by omega)
          rw [if_pos ht, if_neg (by decide), if_pos ht, l1, z_call_eq, m1, z_call_eq, hdy', (ST.a s6 (o := 54) (k := 0) (a := 55) (by decide)), z_rd_eq, z_rd_eq, ln55, if_pos (by decide), if_pos (by decide), zl_eq, show ((698 : Int32).toNatClampNeg) = 698 from rfl, m3.2.2.1 698 (by omega), show (25173 * nI (gN1 L nr G.1 r p left 698) + 13849 : Int32) = nI (25173 * gN1 L nr G.1 r p left 698 + 13849) by simp only [lit, nI_mul, nI_add], rem65536 (by omega), ← d7, (ST.a s7 (o := 54) (k := 0) (a := 55) (by decide)), z_rd_eq, ln55, if_pos (by decide), q7, rem10 (by omega), hds]
          by_cases hlt : gLo (gN1 L nr G.1 r p left) 698 % 10 < d
          · have hfe := R2.2.2.2.2.2.1 (24 * p + r) (by omega)
            rw [← Nat.add_assoc] at hfe
            obtain ⟨o1, o2⟩ := n1'.nu (k := 120 + 24 * p + r) (v := min 99999 (gLo (gN1 L nr G.1 r p left) (120 + 24 * p + r) + (left - min left a)))
            obtain ⟨o3, o4⟩ := o1.ct (j := 28) (v := nI (G.2.1 + (left - min left a))) (c := G.2.1 + (left - min left a)) (s := G.2.2.1 + min left a) (w := G.2.2.2) (by simp) (by rw [va_eq]) (by rw [va_ne (by omega)]; exact o1.2.2.2.2.1) (by rw [va_ne (by omega)]; exact o1.2.2.2.2.2)
            have e4 := o1.2.2.2.1
            have q8 : M7.1 55 (120 + 24 * p + r) = nI (gLo (gN1 L nr G.1 r p left) (120 + 24 * p + r)) := n1'.2.2.1 (120 + 24 * p + r) (by omega)
            rw [if_pos hlt, if_neg (nI_ge hlt (by omega)), z_rd_eq, f_X12_felt, z_call_eq, (ST.a s7 (o := 54) (k := 0) (a := 55) (by decide)), z_rd_eq, f_X12_felt, z_call_eq, show (120 + 24 * nI p + nI r : Int32) = nI (120 + 24 * p + r) by simp only [lit, nI_mul, nI_add], ln55, if_pos (by rw [z_ixN (by omega)]; omega), nI_clamp (by omega), q8, nI_add, m_min (by omega) (by omega), z_call_eq, if_pos (by rw [z_ixN (by omega)]; omega), zl_eq, zl_eq, e4, nI_add]
            exact ⟨_, rfl, o3, F2.tr (o2.tr o4)⟩
          · rw [if_neg hlt, if_pos (nI_le (Nat.le_of_not_lt hlt) (by omega)), f_X12_rises_200, m_above s7 n1'.2.2.1 R2 hp', z_call_eq]
            obtain ⟨x1, x2⟩ := nx (gLo (gN1 L nr G.1 r p left))
            obtain ⟨M', u1, u2, u3⟩ := ih n _ (left - min left a) (abv (gLo (gN1 L nr G.1 r p left)) p) M7 x1 x2 (by omega) n1' R2 (by omega)
            exact ⟨M', u1, u2, F2.tr u3⟩
        · rw [if_neg ht, if_pos rfl, if_neg ht, f_X12_rises_200, m_above s4 k3'.2.2.1 R1 hp', z_call_eq]
          obtain ⟨x1, x2⟩ := nx (gN1 L nr G.1 r p left)
          obtain ⟨M', u1, u2, u3⟩ := ih n _ (left - min left a) (abv (gN1 L nr G.1 r p left) p) M4 x1 x2 (by omega) k3' R1 (by omega)
          exact ⟨M', u1, u2, F1'.tr u3⟩
theorem m_send {M : zM} {n nr r : Nat} {L : Nat → Nat → Int32} {G : (Nat → Nat) × Nat × Nat × Nat} (hU : LU L nr) (hr : r < 24) (hA : MA M L nr G) (hR : NR G.1) : ∃ M', f_X12_hourGoes_2 54 (n + 1) (nI r) M = f_X12_hourGoes_2 54 n (nI (r + 1)) M' ∧ MA M' L nr (gSe L nr r G) ∧ MF M M' := by
  have hs := hR.2.1 r hr
  have s0 := hA.1
  rw [f_X12_hourGoes_2, if_neg (show ¬ (24 : Int32) ≤ nI r from nI_ge (b := 24) hr (by omega)), m_takesIn s0 hA.2.2.1 hR hr, z_call_eq]
  unfold gSe
  by_cases ht : tk G.1 r = true
  · rw [if_pos ht, if_neg (by decide), if_neg (by rw [ht]; decide), (ST.a s0 (o := 54) (k := 0) (a := 55) (by decide)), z_rd_eq, ln55, show (24 + nI r : Int32) = nI (24 + r) by simp only [lit, nI_add], if_pos (by rw [z_ixN (by omega)]; omega), nI_clamp (by omega), hA.2.2.1 (24 + r) (by omega)]
    by_cases h0 : G.1 (24 + r) = 0
    · rw [if_pos h0, if_pos (by rw [h0]; rfl), f_X12_hourGoes_101, zl_eq, nI_1]; exact ⟨M, rfl, hA, MF.rf⟩
    · obtain ⟨M1, i1, i2, i3⟩ := m_asks (r := r) (p := r) (m := 0) s0 hA.2.2.1 hR hr hr
      obtain ⟨i4, i5⟩ := hA.fr (Or.inr rfl) i2
      obtain ⟨M2, j1, j2⟩ := m_holdsAny hU i4.1 i4.2.1 i3
      obtain ⟨j3, j4⟩ := i4.fr (Or.inl rfl) j2
      have f2 : FC M2 (fcs G.1 r r 0) := fun j hj => by rw [j2.c (c := 71) (by decide)]; exact i3 j hj
      rw [if_neg h0, if_neg (nI_nz h0 (by omega)), show (f_X12_asks 54 (nI r) (nI r) 0 M) = some ((), M1) from i1, z_call_eq, j1, z_call_eq]
      by_cases hf : fgL L (fcs G.1 r r 0) nr 0 = true
      · rw [if_pos hf, if_neg (by decide), if_pos hf, f_X12_hourGoes_101, zl_eq, nI_1]
        exact ⟨M2, rfl, j3, i5.tr j4⟩
      · obtain ⟨M3, k1, k2⟩ := m_byLaw (kd := 99) (hi := 99) hU (by decide) j3.1 j3.2.1 f2
        obtain ⟨k3, k4⟩ := j3.fr (Or.inl rfl) k2
        obtain ⟨a, ha, hby⟩ := byL_b (L := L) (fc := fcs G.1 r r 0) (kd := 99) (h := 99) (by omega) nr 0
        have hby' : byL L (fcs G.1 r r 0) 99 99 nr 0 = nI a := hby
        have hmu : gMu L nr G.1 r = min (G.1 (24 + r)) a := by
          unfold gMu
          rw [hby', tn_nI (by omega)]
        have s2 := j3.1
        have s3 := k3.1
        obtain ⟨m1, m2⟩ := k3.nu (k := 24 + r) (v := G.1 (24 + r) - min (G.1 (24 + r)) a)
        rw [if_neg hf, if_pos rfl, if_neg hf, hmu, (ST.a s2 (o := 54) (k := 0) (a := 55) (by decide)), z_rd_eq, ln55, if_pos (by rw [z_ixN (by omega)]; omega), k1, z_call_eq, hby', j3.2.2.1 (24 + r) (by omega), m_min (by omega) (by omega), z_call_eq, (ST.a s3 (o := 54) (k := 0) (a := 55) (by decide)), z_rd_eq, z_rd_eq, ln55, if_pos (by rw [z_ixN (by omega)]; omega), if_pos (by rw [z_ixN (by omega)]; omega), zl_eq, k3.2.2.1 (24 + r) (by omega), nI_sub (by omega)]
        by_cases hm : min (G.1 (24 + r)) a = 0
        · rw [if_pos hm, if_pos (by rw [hm]; decide), f_X12_hourGoes_101, zl_eq, nI_1]
          refine ⟨_, rfl, ?_, ((i5.tr j4).tr k4).tr m2⟩
          have : va_up G.1 (24 + r) (G.1 (24 + r) - min (G.1 (24 + r)) a) = G.1 := by
            rw [hm]; exact va_id rfl
          rw [this] at m1
          exact m1
        · rw [if_neg hm, if_neg (show ¬ nI (min (G.1 (24 + r)) a) ≤ 0 from nI_nle (by omega) (by omega))]
          have R1 : NR (va_up G.1 (24 + r) (G.1 (24 + r) - min (G.1 (24 + r)) a)) := hR.sin hr (by omega)
          have hab : abv (va_up G.1 (24 + r) (G.1 (24 + r) - min (G.1 (24 + r)) a)) r = abv G.1 r := by unfold abv; rw [va_ne (by omega)]
          obtain ⟨M4, u1, u2, u3⟩ := m_ris_lp hU hr 6 zF (va_up G.1 (24 + r) (G.1 (24 + r) - min (G.1 (24 + r)) a), G.2) (min (G.1 (24 + r)) a) (abv G.1 r) _ (abv_le _) (by omega) (by unfold zF; omega) m1 R1 (by omega)
          refine ⟨M4, ?_, u2, ((i5.tr j4).tr k4).tr (m2.tr u3)⟩
          rw [f_X12_rises, m_above m1.1 m1.2.2.1 R1 hr, z_call_eq]
          show z_call (f_X12_rises_9 54 (nI r) zF (nI (min (G.1 (24 + r)) a)) (nI (abv (va_up G.1 (24 + r) (G.1 (24 + r) - min (G.1 (24 + r)) a)) r)) (zu M3.1 55 (24 + r) (nI (G.1 (24 + r) - min (G.1 (24 + r)) a)), M3.2)) _ = _
          rw [hab, u1, z_call_eq, f_X12_hourGoes_101, zl_eq, nI_1]
  · rw [if_neg ht, if_pos rfl, if_pos (by simpa using ht), f_X12_hourGoes_101, zl_eq, nI_1]
    exact ⟨M, rfl, hA, MF.rf⟩
theorem m_hg_lp {nr : Nat} {L : Nat → Nat → Int32} (hU : LU L nr) : ∀ m n r G (M : zM), r + m = 24 → m < n → MA M L nr G → NR G.1 → ∃ M', f_X12_hourGoes_2 54 n (nI r) M = some ((), M') ∧ MA M' L nr (va_up (gRo L nr m r G).1 697 ((gRo L nr m r G).1 697 + 1), (gRo L nr m r G).2) ∧ MF M M' := by
  intro m
  induction m with
  | zero =>
    intro n r G M hr hn hA hR
    obtain ⟨n, rfl⟩ : ∃ z, n = z + 1 := ⟨n - 1, by omega⟩
    obtain rfl : r = 24 := by omega
    obtain ⟨m1, m2⟩ := hA.nu (k := 697) (v := G.1 697 + 1)
    refine ⟨_, ?_, m1, m2⟩
    have s0 := hA.1
    rw [f_X12_hourGoes_2, if_pos (by decide), (ST.a s0 (o := 54) (k := 0) (a := 55) (by decide)), z_rd_eq, z_rd_eq, ln55, if_pos (by decide), if_pos (by decide), zl_eq, show ((697 : Int32).toNatClampNeg) = 697 from rfl, hA.2.2.1 697 (by omega), nI_1]
  | succ m ih =>
    intro n r G M hr hn hA hR
    obtain ⟨n, rfl⟩ : ∃ z, n = z + 1 := ⟨n - 1, by omega⟩
    obtain ⟨M1, i1, i2, i3⟩ := m_send (n := n) hU (show r < 24 by omega) hA hR
    obtain ⟨M', j1, j2, j3⟩ := ih n (r + 1) _ M1 (by omega) (by omega) i2 (gSe_R (by omega) hR).1
    exact ⟨M', i1.trans j1, j2, i3.tr j3⟩
theorem m_hs_lp {nr nn : Nat} {L : Nat → Nat → Int32} (hU : LU L nr) (hnn : nn ≤ 240) : ∀ m n i G (M : zM), i + m = nn → m < n → MA M L nr G → NR G.1 → ∃ M', f_X12_hoursGo_17 54 (nI nn) n (nI i) M = some ((), M') ∧ MA M' L nr (gHs L nr m G) ∧ MF M M' := by
  intro m
  induction m with
  | zero =>
    intro n i G M hr hn hA hR
    obtain ⟨n, rfl⟩ : ∃ z, n = z + 1 := ⟨n - 1, by omega⟩
    obtain rfl : i = nn := by omega
    exact ⟨M, by rw [f_X12_hoursGo_17, if_pos (nI_le (Nat.le_refl _) (by omega))], hA, MF.rf⟩
  | succ m ih =>
    intro n i G M hr hn hA hR
    obtain ⟨n, rfl⟩ : ∃ z, n = z + 1 := ⟨n - 1, by omega⟩
    have hh := hR.2.2.2.2.2.2.2.1
    have s0 := hA.1
    rw [f_X12_hoursGo_17, if_neg (nI_ge (by omega) (by omega)), (ST.a s0 (o := 54) (k := 0) (a := 55) (by decide)), z_rd_eq, ln55, if_pos (by decide), show ((697 : Int32).toNatClampNeg) = 697 from rfl, hA.2.2.1 697 (by omega), gHs]
    by_cases h : 99999 ≤ G.1 697
    · rw [if_pos h, if_pos (show (99999 : Int32) ≤ nI (G.1 697) from nI_le (a := 99999) h (by omega))]
      exact ⟨M, rfl, hA, MF.rf⟩
    · rw [if_neg h, if_neg (show ¬ (99999 : Int32) ≤ nI (G.1 697) from nI_ge (b := 99999) (by omega) (by omega))]
      obtain ⟨M1, i1, i2, i3⟩ := m_hg_lp hU 24 zF 0 G M (by omega) (by unfold zF; omega) hA hR
      obtain ⟨M', j1, j2, j3⟩ := ih n (i + 1) _ M1 (by omega) (by omega) i2 (gHo_R hR (by omega))
      refine ⟨M', ?_, j2, i3.tr j3⟩
      rw [f_X12_hourGoes, show (0 : Int32) = nI 0 from rfl, i1, z_call_eq, zl_eq, nI_1]
      exact j1
theorem m_hoursGo {M : zM} {nr nn : Nat} {L : Nat → Nat → Int32} {N : Nat → Nat} (hU : LU L nr) (hnn : nn ≤ 240) (hS : ST M) (hM : LM M L nr) (hN : MN M 55 N) (hR : NR N) : ∃ M', f_X12_hoursGo 54 (nI nn) M = some ((), M') ∧ MA M' L nr (gHs L nr nn (N, 0, 0, 0)) ∧ MF M M' := by
  have x1 : MF M (zu M.1 54 28 0, M.2) := MX.s54 (by simp) (by simp)
  have x2 : MF M (zu (zu M.1 54 28 0) 54 29 0, M.2) := x1.tr (MX.s54 (M := (zu M.1 54 28 0, M.2)) (by simp) (by simp))
  have x3 : MF M (zu (zu (zu M.1 54 28 0) 54 29 0) 54 30 0, M.2) := x2.tr (MX.s54 (M := (zu (zu M.1 54 28 0) 54 29 0, M.2)) (by simp) (by simp))
  have fr : ∀ c, c ≠ 54 → (zu (zu (zu M.1 54 28 0) 54 29 0) 54 30 0, M.2).1 c = M.1 c := fun c hc => (zu_cell _ _ _ hc).trans ((zu_cell _ _ _ hc).trans (zu_cell _ _ _ hc))
  have hA : MA (zu (zu (zu M.1 54 28 0) 54 29 0) 54 30 0, M.2) L nr (N, 0, 0, 0) := by
    refine ⟨x3.1.st hS, ⟨fun i hi => (fr _ (by omega)).trans (hM.1 i hi), (x3.2 13 (by decide)).trans hM.2⟩, hN.to (fr 55 (by omega)), ?_, ?_, ?_⟩
    · show zu (zu (zu M.1 54 28 0) 54 29 0) 54 30 0 54 28 = _; rw [zu_ne _ _ _ (by decide), zu_ne _ _ _ (by decide), zu_same]; rfl
    · show zu (zu (zu M.1 54 28 0) 54 29 0) 54 30 0 54 29 = _; rw [zu_ne _ _ _ (by decide), zu_same]; rfl
    · show zu (zu (zu M.1 54 28 0) 54 29 0) 54 30 0 54 30 = _; rw [zu_same]; rfl
  obtain ⟨M', i1, i2, i3⟩ := m_hs_lp hU hnn nn zF 0 _ _ (by omega) (by unfold zF; omega) hA hR
  refine ⟨M', ?_, i2, x3.tr i3⟩
  rw [f_X12_hoursGo, zl_eq, zl_eq, zl_eq]
  exact i1
