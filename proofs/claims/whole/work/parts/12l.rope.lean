/-! ropes: the reference whole, and the promise -/
/-- what the reference answers out of right costs -/
def rpA (N : Nat → Nat) (b r w : Nat) : Int32 := if min (Dd N b r) (min (Ld N b r) (Rd N b r)) < FR then nI (if w = 0 then min (Dd N b r) (min (Ld N b r) (Rd N b r)) / 100 else min (Dd N b r) (min (Ld N b r) (Rd N b r)) % 100) else -2
theorem m_rope_end {M : zM} {N g : Nat → Nat} {b r w n : Nat} (hS : ST M) (hG : RG M g) (hL : LBd N b g) (hx : EXk N b g 25) (hr : r < 24) (hw : w ≤ 1) : f_X12_ropes_99 54 (nI r) (nI b) (nI w) (n + 1) (nI 0) M = some (rpA N b r w, M) := by
  have hF : FR = 1000000 := rfl
  have ha := hx.all hL
  obtain ⟨d1, d2, d3⟩ := DLR_le (N := N) (b := b) hr
  have b0 := dsp_le (N := N) (b := b) hr (show 0 < 3 by omega)
  have b1 := dsp_le (N := N) (b := b) hr (show 1 < 3 by omega)
  have b2 := dsp_le (N := N) (b := b) hr (show 2 < 3 by omega)
  have g0 : M.1 79 (3 * r) = nI (dsp N b r 0) := by rw [← ha r hr 0 (by omega)]; exact hG (3 * r) (by omega)
  have g1 : M.1 79 (3 * r + 1) = nI (dsp N b r 1) := by rw [← ha r hr 1 (by omega)]; exact hG (3 * r + 1) (by omega)
  have g2 : M.1 79 (3 * r + 2) = nI (dsp N b r 2) := by rw [← ha r hr 2 (by omega)]; exact hG (3 * r + 2) (by omega)
  have k0 : (3 * nI r : Int32) = nI (3 * r) := by simp only [lit, nI_mul]
  have k1 : (nI (3 * r) + 1 : Int32) = nI (3 * r + 1) := nI_1 _
  have k2 : (nI (3 * r) + 2 : Int32) = nI (3 * r + 2) := by simp only [lit, nI_add]
  have hm := dsp_min (N := N) (b := b) hr
  rw [f_X12_ropes_99, if_pos (show nI 0 = 0 from rfl), (ST.a hS (o := 54) (k := 38) (a := 79) (by decide)), z_rd_eq, ln79, k0, if_pos (by rw [z_ixN (by omega)]; omega), z_rd_eq, ln79, k1, if_pos (by rw [z_ixN (by omega)]; omega), z_rd_eq, ln79, k2, if_pos (by rw [z_ixN (by omega)]; omega), nI_clamp (by omega), nI_clamp (by omega), nI_clamp (by omega), g0, g1, g2, m_min (by omega) (by omega), z_call_eq, m_min (by omega) (by omega), z_call_eq, hm]
  unfold rpA
  have hlt : min (Dd N b r) (min (Ld N b r) (Rd N b r)) ≤ FR := by omega
  generalize min (Dd N b r) (min (Ld N b r) (Rd N b r)) = q at hlt ⊢
  by_cases z : q < FR
  · rw [if_pos (show nI q < (1000000 : Int32) from (nI_ltI (b := 1000000) (by omega) (by omega)).mpr (by omega)), if_pos z]
    rcases (show w = 0 ∨ w = 1 by omega) with rfl | rfl
    · rw [if_pos (show nI 0 = 0 from rfl), if_pos rfl, show (100 : Int32) = nI 100 from rfl, nI_div (by omega) (by omega) (by omega)]
    · rw [if_neg (by decide), if_neg (by decide), show (100 : Int32) = nI 100 from rfl, rem_nI (by omega) (by omega) (by omega)]
  · rw [if_neg (show ¬ nI q < (1000000 : Int32) from nI_nlt (b := 1000000) (by omega) (by omega)), if_neg z]
theorem m_rope_lp {N : Nat → Nat} {b r w : Nat} (hR : NR N) (hb : b ≤ 99999) (hr : r < 24) (hw : w ≤ 1) : ∀ m n k (g : Nat → Nat) (M : zM), k + m = 26 → m + 2 < n → ST M → MN M 55 N → RG M g → LBd N b g → EXk N b g k → ∃ M', f_X12_ropes_99 54 (nI r) (nI b) (nI w) n (nI 1) M = some (rpA N b r w, M') ∧ Fr [79] M M' := by
  intro m
  induction m with
  | zero =>
    intro n k g M hk hn hS hN hG hL hx
    obtain ⟨n, rfl⟩ : ∃ m, n = m + 1 + 1 := ⟨n - 2, by omega⟩
    obtain rfl : k = 26 := by omega
    have hx25 : EXk N b g 25 := ⟨hx.1, fun p hp w hw h1 h2 => hx.2 p hp w hw h1 (by omega)⟩
    obtain ⟨M', g', a', i1, i2, i3, i4, i5, i6⟩ := m_lAll_lp hR hb 24 zF 0 0 g M (by omega) (by unfold zF; omega) (by omega) hS hN hG hL
    rcases i5.2.2 with ⟨q1, q2⟩ | ⟨q1, j, hj, q2⟩
    · refine ⟨M', ?_, i2⟩
      rw [f_X12_ropes_99, if_neg (by decide), f_X12_lowersAll, show f_X12_lowersAll_4 54 (nI b) zF 0 0 M = some (nI a', M') from i1, z_call_eq, q1]
      exact m_rope_end (i2.st hS) i3 i4 (by rw [q2]; exact hx25) hr hw
    · exfalso
      have h1 := hx25.all hL (j / 3) (by omega) (j % 3) (by omega)
      have h2 := (i4 (j / 3) (by omega) (j % 3) (by omega)).1
      rw [show 3 * (j / 3) + j % 3 = j by omega] at h1 h2
      omega
  | succ m ih =>
    intro n k g M hk hn hS hN hG hL hx
    obtain ⟨n, rfl⟩ : ∃ m, n = m + 1 := ⟨n - 1, by omega⟩
    obtain ⟨M', g', a', i1, i2, i3, i4, i5, i6⟩ := m_lAll_lp hR hb 24 zF 0 0 g M (by omega) (by unfold zF; omega) (by omega) hS hN hG hL
    have hE : ∀ p, p < 24 → EdA N b g g' p := fun p hp => i6 p (by omega) hp
    have e1 : f_X12_ropes_99 54 (nI r) (nI b) (nI w) (n + 1) (nI 1) M = f_X12_ropes_99 54 (nI r) (nI b) (nI w) n (nI a') M' := by
      rw [f_X12_ropes_99, if_neg (by decide), f_X12_lowersAll, show f_X12_lowersAll_4 54 (nI b) zF 0 0 M = some (nI a', M') from i1, z_call_eq]
    rcases i5.2.2 with ⟨q1, q2⟩ | ⟨q1, _⟩
    · refine ⟨M', ?_, i2⟩
      obtain ⟨n, rfl⟩ : ∃ m, n = m + 1 := ⟨n - 1, by omega⟩
      rw [e1, q1]
      rw [q2] at hE i3 i4
      by_cases z : k = 26 ∨ k = 25
      · exact m_rope_end (i2.st hS) i3 i4 ⟨hx.1, fun p hp w hw h1 h2 => hx.2 p hp w hw h1 (by omega)⟩ hr hw
      · exact m_rope_end (i2.st hS) i3 i4 (EXk.fix i4 hE (25 - k) k (by omega) hx) hr hw
    · obtain ⟨M2, j1, j2⟩ := ih n (k + 1) g' M' (by omega) (by omega) (i2.st hS) (hN.to (i2.1 55 (by decide))) i3 i4 (hx.st i4 i5.2.1 hE)
      refine ⟨M2, ?_, i2.tr j2⟩
      rw [e1, q1]
      exact j1
theorem m_rope_fill {x1 x2 x3 : Int32} : ∀ m n i (M : zM), i + m = 72 → m < n → ST M → (∀ j, j < i → M.1 79 j = nI FR) → ∃ M', f_X12_ropes_32 54 x1 x2 x3 n (nI i) M = f_X12_ropes_59 54 x1 x2 x3 zF 20 M' ∧ Fr [79] M M' ∧ RG M' (fun _ => FR) := by
  intro m
  induction m with
  | zero =>
    intro n i M hi hn hS h
    obtain ⟨n, rfl⟩ : ∃ m, n = m + 1 := ⟨n - 1, by omega⟩
    obtain rfl : i = 72 := by omega
    exact ⟨M, by rw [f_X12_ropes_32, if_pos (by decide)], Fr.rf, h⟩
  | succ m ih =>
    intro n i M hi hn hS h
    obtain ⟨n, rfl⟩ : ∃ m, n = m + 1 := ⟨n - 1, by omega⟩
    have f1 : Fr [79] M (zu M.1 79 i (nI FR), M.2) := Fr.zu (by simp)
    obtain ⟨M', h1, h2, h3⟩ := ih n (i + 1) (zu M.1 79 i (nI FR), M.2) (by omega) (by omega) (f1.st hS) (fun j hj => by
      show zu M.1 79 i (nI FR) 79 j = _
      by_cases e : j = i
      · rw [e, zu_same]
      · rw [zu_ne _ _ _ e]; exact h j (by omega))
    refine ⟨M', ?_, f1.tr h2, h3⟩
    rw [f_X12_ropes_32, if_neg (show ¬ (72 : Int32) ≤ nI i from nI_ge (b := 72) (by omega) (by omega)), (ST.a hS (o := 54) (k := 38) (a := 79) (by decide)), z_rd_eq, ln79, if_pos (by rw [z_ixN (by omega)]; omega), zl_eq, nI_clamp (by omega), zl_eq, nI_1]
    exact h1
theorem m_rope_src {N : Nat → Nat} {b : Nat} {x1 x3 : Int32} (hR : NR N) (hb : b ≤ 99999) : ∀ m n i (g : Nat → Nat) (M : zM), i + m = 24 → 20 ≤ i → m < n → ST M → MN M 55 N → RG M g → (∀ k, k < 72 → g k = FR ∨ (g k = 1 ∧ k % 3 = 0 ∧ 60 ≤ k ∧ bar N b (k / 3) = false)) → (∀ p, 20 ≤ p → p < i → bar N b p = false → g (3 * p) ≤ 1) → ∃ M' g', f_X12_ropes_59 54 x1 (nI b) x3 n (nI i) M = f_X12_ropes_99 54 x1 (nI b) x3 zF 1 M' ∧ Fr [79] M M' ∧ RG M' g' ∧ (∀ k, k < 72 → g' k = FR ∨ (g' k = 1 ∧ k % 3 = 0 ∧ 60 ≤ k ∧ bar N b (k / 3) = false)) ∧ (∀ p, 20 ≤ p → p < 24 → bar N b p = false → g' (3 * p) ≤ 1) := by
  intro m
  induction m with
  | zero =>
    intro n i g M hi h20 hn hS hN hG h1 h2
    obtain ⟨n, rfl⟩ : ∃ m, n = m + 1 := ⟨n - 1, by omega⟩
    obtain rfl : i = 24 := by omega
    exact ⟨M, g, by rw [f_X12_ropes_59, if_pos (by decide)], Fr.rf, hG, h1, h2⟩
  | succ m ih =>
    intro n i g M hi h20 hn hS hN hG h1 h2
    obtain ⟨n, rfl⟩ : ∃ m, n = m + 1 := ⟨n - 1, by omega⟩
    have hg := hR.2.2.2.2.1 i (by omega)
    have e0 : f_X12_ropes_59 54 x1 (nI b) x3 (n + 1) (nI i) M = if b < N (96 + i) then f_X12_ropes_59 54 x1 (nI b) x3 n (nI (i + 1)) M else f_X12_ropes_59 54 x1 (nI b) x3 n (nI (i + 1)) (zu M.1 79 (3 * i) (nI 1), M.2) := by
      rw [f_X12_ropes_59, if_neg (show ¬ (24 : Int32) ≤ nI i from nI_ge (b := 24) (by omega) (by omega)), (ST.a hS (o := 54) (k := 0) (a := 55) (by decide)), z_rd_eq, ln55, show (96 + nI i : Int32) = nI (96 + i) by simp only [lit, nI_add], if_pos (by rw [z_ixN (by omega)]; omega), nI_clamp (by omega), hN (96 + i) (by omega)]
      by_cases z : b < N (96 + i)
      · rw [if_pos ((nI_ltI (by omega) (by omega)).mpr z), if_pos z, f_X12_ropes_90, zl_eq, nI_1]
      · rw [if_neg (nI_nlt (by omega) (by omega)), if_neg z, (ST.a hS (o := 54) (k := 38) (a := 79) (by decide)), z_rd_eq, ln79, show (3 * nI i : Int32) = nI (3 * i) by simp only [lit, nI_mul], if_pos (by rw [z_ixN (by omega)]; omega), zl_eq, nI_clamp (by omega), f_X12_ropes_90, zl_eq, nI_1]
        rfl
    by_cases z : b < N (96 + i)
    · rw [if_pos z] at e0
      obtain ⟨M', g', j1, j2, j3, j4, j5⟩ := ih n (i + 1) g M (by omega) (by omega) (by omega) hS hN hG h1 (fun p p1 p2 p3 => by
        by_cases e : p = i
        · rw [e] at p3
          simp [bar] at p3
          omega
        · exact h2 p p1 (by omega) p3)
      exact ⟨M', g', e0.trans j1, j2, j3, j4, j5⟩
    · rw [if_neg z] at e0
      have f1 : Fr [79] M (zu M.1 79 (3 * i) (nI 1), M.2) := Fr.zu (by simp)
      obtain ⟨M', g', j1, j2, j3, j4, j5⟩ := ih n (i + 1) (va_up g (3 * i) 1) _ (by omega) (by omega) (by omega) (f1.st hS) (hN.to (f1.1 55 (by decide))) hG.set (fun k hk => by
        by_cases e : k = 3 * i
        · rw [e, va_eq]
          refine Or.inr ⟨rfl, by omega, by omega, ?_⟩
          rw [show 3 * i / 3 = i by omega]
          simp [bar]
          omega
        · rw [va_ne e]; exact h1 k hk) (fun p p1 p2 p3 => by
        by_cases e : p = i
        · rw [e, va_eq]; omega
        · rw [va_ne (by omega)]; exact h2 p p1 (by omega) p3)
      exact ⟨M', g', e0.trans j1, f1.tr j2, j3, j4, j5⟩
theorem m_ropes {M : zM} {N : Nat → Nat} {r b w : Nat} (hS : ST M) (hN : MN M 55 N) (hR : NR N) (hr : r < 24) (hb : b ≤ 99999) (hw : w ≤ 1) : ∃ M', f_X12_ropes 54 (nI r) (nI b) (nI w) M = some (rpA N b r w, M') ∧ Fr [79] M M' := by
  have hF : FR = 1000000 := rfl
  obtain ⟨M1, a1, a2, a3⟩ := m_rope_fill (x1 := nI r) (x2 := nI b) (x3 := nI w) 72 zF 0 M (by omega) (by unfold zF; omega) hS (fun j hj => by omega)
  obtain ⟨M2, g, b1, b2, b3, b4, b5⟩ := m_rope_src (N := N) (b := b) (x1 := nI r) (x3 := nI w) hR hb 4 zF 20 (fun _ => FR) M1 (by omega) (by omega) (by unfold zF; omega) (a2.st hS) (hN.to (a2.1 55 (by decide))) a3 (fun k _ => Or.inl rfl) (fun p p1 p2 => by omega)
  have hL : LBd N b g := by
    intro p hp v hv
    have hd := dsp_le (N := N) (b := b) hp hv
    rcases b4 (3 * p + v) (by omega) with q | ⟨q1, q2, q3, q4⟩
    · omega
    · obtain rfl : v = 0 := by omega
      rw [Nat.add_zero] at *
      rw [show 3 * p / 3 = p by omega] at q4
      rw [q1, dsp0, Dd_top (by omega) hp, cA_f q4]
      omega
  obtain ⟨M3, c1, c2⟩ := m_rope_lp (w := w) hR hb hr hw 26 zF 0 g M2 (by omega) (by unfold zF; omega) (b2.st (a2.st hS)) ((hN.to (a2.1 55 (by decide))).to (b2.1 55 (by decide))) b3 hL (EXk.z b5)
  refine ⟨M3, ?_, (a2.tr b2).tr c2⟩
  rw [f_X12_ropes, e_room2 hr, z_call_eq, if_neg (by decide), show f_X12_in (nI b) 0 99999 M = some (1, M) from e_in1 (n := 99999) (by omega) hb M, z_call_eq, if_neg (by decide), show f_X12_in (nI w) 0 1 M = some (1, M) from e_in1 (n := 1) (by omega) hw M, z_call_eq, if_neg (by decide)]
  exact a1.trans (b1.trans c1)
theorem p_ropes : ok_ropes Inv := by
  intro M hI a b c
  obtain ⟨N, K, hS, hR, hN, hC, hK, hT, hL⟩ := id hI
  rcases room_cases a with ⟨r, hr, rfl⟩ | ha
  · rcases f_in_cases b 99999 (by omega) with ⟨bb, hb, rfl⟩ | hb
    · rcases f_in_cases c 1 (by omega) with ⟨w, hw, rfl⟩ | hw
      · obtain ⟨M1, h1, f1⟩ := c_let (w := w) hS hC hR hr hb hw
        obtain ⟨M2, h2, f2⟩ := m_ropes (w := w) (f1.st hS) (hN.to (f1.1 55 (by decide))) hR hr hb hw
        refine ⟨rpA N bb r w, M1, M2, ?_, h2, Inv.sct hS hR hN hC hK hT hL (l := [44, 45, 46, 79]) ((f1.mono (by decide)).tr (f2.mono (by decide))) (by decide) (by decide) (by decide)⟩
        rw [f_X11_ropes, e_room hr, z_call_eq, if_neg (by decide), e_within, show f_X12_in (nI bb) 0 99999 M = some (1, M) from e_in1 (n := 99999) (by omega) hb M, z_call_eq, if_neg (by decide), e_within, show f_X12_in (nI w) 0 1 M = some (1, M) from e_in1 (n := 1) (by omega) hw M, z_call_eq, if_neg (by decide), (ST.a hS (o := 0) (k := 8) (a := 43) (by decide)), z_rd_eq, (ST.a hS (o := 0) (k := 1) (a := 3) (by decide)), z_rd_eq, h1, z_call_eq]
        rfl
      · refine ⟨-1, M, M, ?_, ?_, hI⟩
        · rw [f_X11_ropes, e_room hr, z_call_eq, if_neg (by decide), e_within, show f_X12_in (nI bb) 0 99999 M = some (1, M) from e_in1 (n := 99999) (by omega) hb M, z_call_eq, if_neg (by decide), e_within, show f_X12_in c 0 1 M = some (0, M) from e_in0 (n := 1) (by omega) hw M, z_call_eq, if_pos rfl]
        · rw [f_X12_ropes, e_room2 hr, z_call_eq, if_neg (by decide), show f_X12_in (nI bb) 0 99999 M = some (1, M) from e_in1 (n := 99999) (by omega) hb M, z_call_eq, if_neg (by decide), show f_X12_in c 0 1 M = some (0, M) from e_in0 (n := 1) (by omega) hw M, z_call_eq, if_pos rfl]
    · refine ⟨-1, M, M, ?_, ?_, hI⟩
      · rw [f_X11_ropes, e_room hr, z_call_eq, if_neg (by decide), e_within, show f_X12_in b 0 99999 M = some (0, M) from e_in0 (n := 99999) (by omega) hb M, z_call_eq, if_pos rfl]
      · rw [f_X12_ropes, e_room2 hr, z_call_eq, if_neg (by decide), show f_X12_in b 0 99999 M = some (0, M) from e_in0 (n := 99999) (by omega) hb M, z_call_eq, if_pos rfl]
  · refine ⟨-1, M, M, ?_, ?_, hI⟩
    · rw [f_X11_ropes, (ha M).1, z_call_eq, if_pos rfl]
    · rw [f_X12_ropes, (ha M).2, z_call_eq, if_pos rfl]
