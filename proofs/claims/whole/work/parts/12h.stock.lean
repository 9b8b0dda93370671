/-! stockings: the reference -/
theorem lN_ad (a b : Nat) : lN a + lN b = lN (a + b) := (Int64.ofNat_add a b).symm
theorem m_below_lp {M : zM} {N : Nat → Nat} {Z : Nat → Nat → Nat} {p a : Nat} {oa : Int32} (hS : ST M) (hN : MN M 55 N) (hR : NR N) (hp : p < 24) (hoa : (oa = 0 ∧ a = 75) ∨ (oa = 1 ∧ a = 74)) (ht : ∀ c, c < p → M.2.2 a c = lN (vz (Z c))) : ∀ m n r, r + m = p / 4 * 4 → m < n → f_X12_belowOf_11 54 (nI p) oa n (lN (av N Z p r)) (nI r) M = some (lN (av N Z p (p / 4 * 4)), M) := by
  intro m
  induction m with
  | zero =>
    intro n r hr hn
    obtain ⟨n, rfl⟩ : ∃ m, n = m + 1 := ⟨n - 1, by omega⟩
    obtain rfl : r = p / 4 * 4 := by omega
    rw [f_X12_belowOf_11, div4 (by omega), show (4 : Int32) = nI 4 from rfl, nI_mul, if_pos ((nI_leI (by omega) (by omega)).mpr (Nat.le_refl _))]
  | succ m ih =>
    intro n r hr hn
    obtain ⟨n, rfl⟩ : ∃ m, n = m + 1 := ⟨n - 1, by omega⟩
    have hi := ih n (r + 1) (by omega) (by omega)
    have ha := abv_le (N := N) r
    rw [f_X12_belowOf_11, div4 (by omega), show (4 : Int32) = nI 4 from rfl, nI_mul, if_neg (nI_ge (by omega) (by omega)), if_neg (nI_pos (by omega)), m_above hS hN hR (by omega), z_call_eq]
    rw [av_s] at hi
    by_cases e : abv N r = p
    · rw [if_pos e] at hi
      rw [if_pos (by rw [e])]
      rcases hoa with ⟨rfl, rfl⟩ | ⟨rfl, rfl⟩
      · rw [if_pos rfl, (ST.a hS (o := 54) (k := 34) (a := 75) (by decide)), z_rd_eq, show z_ln SH 75 = 24 by decide, if_pos (by rw [z_ixN (by omega)]; omega), nI_clamp (by omega), ht r (by omega), f_X12_belowOf_58, lN_ad, zl_eq, f_X12_belowOf_60, zl_eq, nI_1]
        exact hi
      · rw [if_neg (by decide), (ST.a hS (o := 54) (k := 33) (a := 74) (by decide)), z_rd_eq, show z_ln SH 74 = 24 by decide, if_pos (by rw [z_ixN (by omega)]; omega), nI_clamp (by omega), ht r (by omega), f_X12_belowOf_58, lN_ad, zl_eq, f_X12_belowOf_60, zl_eq, nI_1]
        exact hi
    · rw [if_neg e, Nat.add_zero (av N Z p r)] at hi
      rw [if_neg (fun q => e ((nI_eq (by omega) (by omega)).mp q)), f_X12_belowOf_60, zl_eq, nI_1]
      exact hi
theorem m_below {M : zM} {N : Nat → Nat} {Z : Nat → Nat → Nat} {p a : Nat} {oa : Int32} (hS : ST M) (hN : MN M 55 N) (hR : NR N) (hp : p < 24) (hoa : (oa = 0 ∧ a = 75) ∨ (oa = 1 ∧ a = 74)) (ht : ∀ c, c < p → M.2.2 a c = lN (vz (Z c))) : f_X12_belowOf 54 (nI p) oa M = some (lN (av N Z p p), M) := by
  have hfl : ∀ c, c < 20 → abv N c / 4 = c / 4 + 1 := fun c hc => (abv_lt hc).2
  have h1 : av N Z p p = av N Z p (p / 4 * 4) := by
    have := av_same (N := N) (Z := Z) (p := p) (k := p / 4 * 4) (p - p / 4 * 4) (fun c h1 h2 => by
      by_cases q : c < 20
      · have := hfl c q; omega
      · rw [abv_hi (by omega)]; omega)
    rw [show p / 4 * 4 + (p - p / 4 * 4) = p by omega] at this
    exact this
  rw [f_X12_belowOf, div4 (by omega), show (4 : Int32) = nI 4 from rfl, nI_mul, h1]
  by_cases h4 : 4 ≤ p
  · have h0 : av N Z p (p / 4 * 4 - 4) = 0 := by
      have := av_same (N := N) (Z := Z) (p := p) (k := 0) (p / 4 * 4 - 4) (fun c _ h2 => by
        have := hfl c (by omega); omega)
      rw [Nat.zero_add, av_0] at this
      exact this
    rw [nI_sub (by omega), zl_eq]
    have := m_below_lp hS hN hR hp hoa ht 4 zF (p / 4 * 4 - 4) (by omega) (by unfold zF; omega)
    rw [h0] at this
    exact this
  · have e0 : p / 4 * 4 = 0 := by omega
    have hd : nI p / 4 * 4 = 0 := by
      rw [div4 (by omega), show (4 : Int32) = nI 4 from rfl, nI_mul, e0]; rfl
    rw [e0, av_0, zl_eq, show zF = 995 + 1 + 1 + 1 + 1 + 1 from rfl]
    rw [f_X12_belowOf_11, hd, if_neg (by decide), if_pos (by decide), f_X12_belowOf_60, zl_eq]
    rw [f_X12_belowOf_11, hd, if_neg (by decide), if_pos (by decide), f_X12_belowOf_60, zl_eq]
    rw [f_X12_belowOf_11, hd, if_neg (by decide), if_pos (by decide), f_X12_belowOf_60, zl_eq]
    rw [f_X12_belowOf_11, hd, if_neg (by decide), if_pos (by decide), f_X12_belowOf_60, zl_eq]
    rw [f_X12_belowOf_11, hd, if_pos (by decide)]
    rfl
theorem lw_sh : ∀ k, k < 24 → ((16777216 : Int64) + ((1 : Int64) <<< ((nI k : Int32).toInt64 &&& 63))) = lN (wg k) := by decide
theorem lN_leI {a b : Nat} (ha : a < 2 ^ 63) (hb : b < 2 ^ 63) : lN a ≤ lN b ↔ a ≤ b := Int64.ofNat_le_iff_le ha hb
theorem m_best {M : zM} {N : Nat → Nat} {R k : Nat} (hS : ST M) (hN : MN M 55 N) (hR : NR N) (hk : k < 24) (h1 : ∀ c, c < k → M.2.2 74 c = lN (vz ((stt N R k).1 c))) (h2 : ∀ c, c < k → M.2.2 75 c = lN (vz ((stt N R k).2 c))) (x : Int32) (hx : x = if R.testBit k then 1 else 0) : f_X12_bestOf 54 (nI k) x 1 M = some (lN (vz ((stt N R (k + 1)).1 k)), M) ∧ f_X12_bestOf 54 (nI k) x 0 M = some (lN (vz ((stt N R (k + 1)).2 k)), M) := by
  have b1 := m_below hS hN hR hk (Or.inr ⟨rfl, rfl⟩) h1
  have b2 := m_below hS hN hR hk (Or.inl ⟨rfl, rfl⟩) h2
  obtain ⟨l1, l2⟩ := av_le (N := N) (R := R) (Nat.le_refl k)
  have hw := wg_lt hk
  have n1 := stt_k1 (N := N) (R := R) hk
  have n2 := stt_k2 (N := N) (R := R) hk
  have w1 : 1 ≤ wg k := by unfold wg; have := Nat.two_pow_pos k; omega
  refine ⟨?_, ?_⟩
  · rw [f_X12_bestOf, m_takesIn hS hN hR hk, z_call_eq, n1]
    by_cases q : tk N k = true
    · rw [if_pos q, if_neg (by decide), b1, z_call_eq, lw_sh k hk, lN_ad, zl_eq, hx]
      by_cases q2 : R.testBit k = true
      · rw [if_pos q2, if_neg (by decide), if_neg (by decide), if_pos (by simp [q, q2]), Nat.add_comm]
      · rw [if_neg q2, if_pos rfl, f_X12_bestOf_42, b1, z_call_eq, if_neg (fun z => by
          have := (lN_leI (by omega) (by omega)).mp ((lg_cmp_ge _ _).mp z)
          omega), if_neg (by simp [q2])]
    · rw [if_neg q, if_pos rfl, b1, z_call_eq, if_neg (by simp [q])]
  · rw [f_X12_bestOf, m_takesIn hS hN hR hk, z_call_eq, n2]
    by_cases q : tk N k = true
    · have h42 : f_X12_bestOf_42 54 (nI k) (lN (wg k + av N (stt N R k).2 k k)) M = some (lN (min (av N (stt N R k).2 k k + wg k) (av N (stt N R k).1 k k)), M) := by
        rw [f_X12_bestOf_42, b1, z_call_eq]
        by_cases z : wg k + av N (stt N R k).2 k k ≤ av N (stt N R k).1 k k
        · rw [if_pos ((lg_cmp_ge _ _).mpr ((lN_leI (by omega) (by omega)).mpr z)), Nat.min_eq_left (by omega), Nat.add_comm]
        · rw [if_neg (fun y => z ((lN_leI (by omega) (by omega)).mp ((lg_cmp_ge _ _).mp y))), Nat.min_eq_right (by omega)]
      rw [if_pos q, if_neg (by decide), b2, z_call_eq, lw_sh k hk, lN_ad, zl_eq, if_pos rfl, h42, if_pos q]
      by_cases q2 : x = 0
      · rw [if_pos q2]
      · rw [if_neg q2]
    · rw [if_neg q, if_pos rfl, b2, z_call_eq, if_neg q]
theorem zq_1 {L : Nat → Nat → Int64} {k c : Nat} {x : Int64} : zu L 74 k x 74 c = va_up (L 74) k x c := by rw [zu_self]
theorem zq_2 {L : Nat → Nat → Int64} {k c : Nat} {x : Int64} : zu L 74 k x 75 c = L 75 c := by rw [zu_cell _ _ _ (by decide)]
theorem zq_3 {L : Nat → Nat → Int64} {k c : Nat} {x y : Int64} : zu (zu L 74 k x) 75 k y 74 c = va_up (L 74) k x c := by rw [zu_cell _ _ _ (by decide), zu_self]
theorem zq_4 {L : Nat → Nat → Int64} {k c : Nat} {x y : Int64} : zu (zu L 74 k x) 75 k y 75 c = va_up (L 75) k y c := by rw [zu_self, zu_cell _ _ _ (by decide)]
theorem m_has {R k : Nat} (hR : R < 2 ^ 24) (hk : k < 24) (M : zM) : f_X12_has (nI R) (nI k) M = some (if R.testBit k then 1 else 0, M) := by
  rw [f_X12_has, r_bit hR hk]
  cases R.testBit k <;> rfl
theorem m_stock_lp {N : Nat → Nat} {R : Nat} {x2 : Int32} (hR : NR N) (hRR : R < 2 ^ 24) : ∀ m n k (M : zM), k + m = 24 → m < n → ST M → MN M 55 N → (∀ c, c < k → M.2.2 74 c = lN (vz ((stt N R k).1 c)) ∧ M.2.2 75 c = lN (vz ((stt N R k).2 c))) → ∃ M', f_X12_stockings_27 54 (nI R) x2 n (lN (av N (stt N R k).2 24 k)) (nI k) M = some (if x2 = 0 then ((lN (av N (stt N R 24).2 24 24) / 16777216 : Int64)).toInt32 else ((lN (av N (stt N R 24).2 24 24) - lN (av N (stt N R 24).2 24 24) / 16777216 * 16777216 : Int64)).toInt32, M') ∧ M'.1 = M.1 ∧ M'.2.1 = M.2.1 := by
  intro m
  induction m with
  | zero =>
    intro n k M hk hn hS hN h
    obtain ⟨n, rfl⟩ : ∃ m, n = m + 1 := ⟨n - 1, by omega⟩
    obtain rfl : k = 24 := by omega
    refine ⟨M, ?_, rfl, rfl⟩
    rw [f_X12_stockings_27, if_pos (by decide)]
    by_cases q : x2 = 0
    · rw [if_pos q, if_pos q]
    · rw [if_neg q, if_neg q]
  | succ m ih =>
    intro n k M hk hn hS hN h
    obtain ⟨n, rfl⟩ : ∃ m, n = m + 1 := ⟨n - 1, by omega⟩
    have hk24 : k < 24 := by omega
    have hb := m_best (R := R) hS hN hR hk24 (fun c hc => (h c hc).1) (fun c hc => (h c hc).2) _ rfl
    -- the memory behind the first write
    have hS1 : ST (M.1, M.2.1, zu M.2.2 74 k (lN (vz ((stt N R (k + 1)).1 k)))) := hS.to rfl
    have hN1 : MN (M.1, M.2.1, zu M.2.2 74 k (lN (vz ((stt N R (k + 1)).1 k)))) 55 N := hN.to rfl
    have hb1 := m_best (M := (M.1, M.2.1, zu M.2.2 74 k (lN (vz ((stt N R (k + 1)).1 k))))) (R := R) hS1 hN1 hR hk24 (fun c hc => by
      refine (zq_1 (L := M.2.2) (k := k) (x := lN (vz ((stt N R (k + 1)).1 k)))).trans ?_
      rw [va_ne (by omega)]
      exact (h c hc).1) (fun c hc => by
      refine (zq_2 (L := M.2.2) (k := k) (x := lN (vz ((stt N R (k + 1)).1 k)))).trans ?_
      exact (h c hc).2) _ rfl
    have hS2 : ST (M.1, M.2.1, zu (zu M.2.2 74 k (lN (vz ((stt N R (k + 1)).1 k)))) 75 k (lN (vz ((stt N R (k + 1)).2 k)))) := hS.to rfl
    obtain ⟨M', i1, i2, i3⟩ := ih n (k + 1) (M.1, M.2.1, zu (zu M.2.2 74 k (lN (vz ((stt N R (k + 1)).1 k)))) 75 k (lN (vz ((stt N R (k + 1)).2 k)))) (by omega) (by omega) hS2 (hN.to rfl) (fun c hc => by
      by_cases e : c = k
      · subst e
        refine ⟨?_, ?_⟩
        · refine (zq_3 (L := M.2.2) (k := c) (x := lN (vz ((stt N R (c + 1)).1 c))) (y := lN (vz ((stt N R (c + 1)).2 c)))).trans ?_
          rw [va_eq]
        · refine (zq_4 (L := M.2.2) (k := c) (x := lN (vz ((stt N R (c + 1)).1 c))) (y := lN (vz ((stt N R (c + 1)).2 c)))).trans ?_
          rw [va_eq]
      · rw [stt_1 e, stt_2 e]
        refine ⟨?_, ?_⟩
        · refine (zq_3 (L := M.2.2) (k := k) (x := lN (vz ((stt N R (k + 1)).1 k))) (y := lN (vz ((stt N R (k + 1)).2 k)))).trans ?_
          rw [va_ne e]
          exact (h c (by omega)).1
        · refine (zq_4 (L := M.2.2) (k := k) (x := lN (vz ((stt N R (k + 1)).1 k))) (y := lN (vz ((stt N R (k + 1)).2 k)))).trans ?_
          rw [va_ne e]
          exact (h c (by omega)).2)
    refine ⟨M', ?_, i2, i3⟩
    have hav : av N (stt N R (k + 1)).2 24 (k + 1) = av N (stt N R k).2 24 k + if abv N k = 24 then vz ((stt N R (k + 1)).2 k) else 0 := by
      rw [av_s, av_cg (fun c hc => stt_2 (by omega))]
    rw [f_X12_stockings_27, if_neg (show ¬ (24 : Int32) ≤ nI k from nI_ge (b := 24) hk24 (by omega)), (ST.a hS (o := 54) (k := 33) (a := 74) (by decide)), z_rd_eq, m_has hRR hk24, z_call_eq, hb.1, z_call_eq, show z_ln SH 74 = 24 by decide, if_pos (by rw [z_ixN (by omega)]; omega), zl_eq, nI_clamp (by omega), (ST.a hS1 (o := 54) (k := 34) (a := 75) (by decide)), z_rd_eq, m_has hRR hk24, z_call_eq, hb1.2, z_call_eq, show z_ln SH 75 = 24 by decide, if_pos (by rw [z_ixN (by omega)]; omega), zl_eq, div4 (by omega)]
    by_cases q : k < 20
    · have ha := (abv_lt (N := N) q).1
      rw [if_neg (show ¬ nI (k / 4) = 5 from fun z => by have := (nI_eq (b := 5) (by omega) (by omega)).mp z; omega), f_X12_stockings_92, zl_eq, nI_1]
      rw [hav, if_neg (by omega), Nat.add_zero (av N (stt N R k).2 24 k)] at i1
      exact i1
    · rw [if_pos (show nI (k / 4) = 5 by rw [show k / 4 = 5 by omega]; rfl), (ST.a hS2 (o := 54) (k := 34) (a := 75) (by decide)), z_rd_eq, show z_ln SH 75 = 24 by decide, if_pos (by rw [z_ixN (by omega)]; omega)]
      show zl (lN (av N (stt N R k).2 24 k) + zu (zu M.2.2 74 k (lN (vz ((stt N R (k + 1)).1 k)))) 75 k (lN (vz ((stt N R (k + 1)).2 k))) 75 k) _ = _
      rw [zu_same, lN_ad, zl_eq, f_X12_stockings_92, zl_eq, nI_1]
      rw [hav, if_pos (abv_hi (by omega))] at i1
      exact i1
theorem lN_div {a d : Nat} (ha : a < 2 ^ 63) (hd : d < 2 ^ 63) : lN a / lN d = lN (a / d) := (Int64.ofNat_div ha hd).symm
theorem Inv.lng {M M' : zM} (h : Inv M) (e1 : M'.1 = M.1) (e2 : M'.2.1 = M.2.1) : Inv M' := by
  obtain ⟨a, b, c⟩ := M
  obtain ⟨a', b', c'⟩ := M'
  obtain rfl : a' = a := e1
  obtain rfl : b' = b := e2
  exact h
theorem p_stockings : ok_stockings Inv := by
  intro M hI a b
  obtain ⟨N, K, hS, hR, hN, hC, hK, hT, hL⟩ := id hI
  rcases f_in_cases a 16777215 (by omega) with ⟨R, hRR, rfl⟩ | ha
  · rcases f_in_cases b 1 (by omega) with ⟨w, hw, rfl⟩ | hb
    · have hR24 : R < 2 ^ 24 := by omega
      obtain ⟨M0, h0, f0, t0⟩ := c_fillr (a := 41) (v := 0) ln41 M
      have s0 := f0.st hS
      obtain ⟨M1, h1, f1, t1⟩ := c_fillr (a := 42) (v := 0) ln42 M0
      have s1 := f1.st s0
      have f01 : Fr [41, 42] M M1 := (f0.mono (by decide)).tr (f1.mono (by decide))
      obtain ⟨M2, h2, f2⟩ := c_stock_lp hR hR24 24 zF 0 M1 (by omega) (by unfold zF; omega) s1 (hC.to (fun c q1 q2 => f01.1 c (by simp; omega))) (fun p _ hp => ⟨by rw [f1.1 41 (by decide), t0 p hp, av_0], by rw [t1 p hp, av_0]⟩)
      rw [av_0] at h2
      have f02 := f01.tr f2
      obtain ⟨M3, h3, g1, g2⟩ := m_stock_lp (x2 := nI w) hR hR24 24 zF 0 M2 (by omega) (by unfold zF; omega) (f02.st hS) (hN.to (f02.1 55 (by decide))) (fun c hc => by omega)
      rw [av_0] at h3
      have hz1 : ∀ q, q < 24 → acz N (stt N R 24).2 24 q 24 ≤ 1 := fun q _ => (acz_1 (Nat.le_refl 24)).2
      have hval : av N (stt N R 24).2 24 24 = 2 ^ 24 * g_sum (fun q => acz N (stt N R 24).2 24 q 24) 0 24 + g_bits (fun q => acz N (stt N R 24).2 24 q 24) 0 24 := vz_split _
      have hbl := g_bits_lt (N := fun q => acz N (stt N R 24).2 24 q 24) (b := 0) (n := 24) (fun k hk => by rw [Nat.zero_add]; exact hz1 k hk)
      have hpc := pc_bits (N := fun q => acz N (stt N R 24).2 24 q 24) hz1 24 (by omega)
      have hsl : g_sum (fun q => acz N (stt N R 24).2 24 q 24) 0 24 ≤ 24 * 1 := g_sum_le (fun k hk => by rw [Nat.zero_add]; exact hz1 k hk)
      have hIv : Inv M3 := (Inv.sct hS hR hN hC hK hT hL (l := [41, 42]) f02 (by decide) (by decide) (by decide)).lng g1 g2
      generalize hgB : g_bits (fun q => acz N (stt N R 24).2 24 q 24) 0 24 = gB at *
      generalize hgS : g_sum (fun q => acz N (stt N R 24).2 24 q 24) 0 24 = gN at *
      have hmask : nI (av N (stt N R 24).2 24 24) &&& 16777215 = nI gB := by
        rw [hval, show (16777215 : Int32) = nI (2 ^ 24 - 1) from rfl, nI_and, Nat.and_two_pow_sub_one_eq_mod]
        congr 1
        omega
      have hc : f_X2_fewestShut 40 3 (nI R) M = some (nI gB, M2) := by
        rw [f_X2_fewestShut, (ST.a hS (o := 40) (k := 0) (a := 41) (by decide)), z_rd_eq, show f_J7_fill_53178 41 0 M = some ((), M0) from h0, z_call_eq, (ST.a s0 (o := 40) (k := 1) (a := 42) (by decide)), z_rd_eq, show f_J7_fill_53178 42 0 M0 = some ((), M1) from h1, z_call_eq, ← hmask]
        exact h2
      have hm : f_X12_stockings 54 (nI R) (nI w) M2 = some (if nI w = 0 then nI gN else nI gB, M3) := by
        have e1 : ((lN (av N (stt N R 24).2 24 24) / 16777216 : Int64)).toInt32 = nI gN := by
          rw [show (16777216 : Int64) = lN 16777216 from rfl, lN_div (by omega) (by omega), hval]
          show (Int64.ofNat _).toInt32 = _
          rw [Int64.toInt32_ofNat']
          show nI _ = nI gN
          congr 1
          omega
        have e2 : ((lN (av N (stt N R 24).2 24 24) - lN (av N (stt N R 24).2 24 24) / 16777216 * 16777216 : Int64)).toInt32 = nI gB := by
          rw [show (16777216 : Int64) = lN 16777216 from rfl, lN_div (by omega) (by omega), show ∀ x y : Nat, lN x * lN y = lN (x * y) from fun x y => (Int64.ofNat_mul x y).symm, show ∀ x y : Nat, y ≤ x → lN x - lN y = lN (x - y) from fun x y h => (Int64.ofNat_sub x y h).symm, hval]
          · show (Int64.ofNat _).toInt32 = _
            rw [Int64.toInt32_ofNat']
            show nI _ = nI gB
            congr 1
            omega
          · omega
        rw [f_X12_stockings, show f_X12_in (nI R) 0 16777215 M2 = some (1, M2) from e_in1 (n := 16777215) (by omega) hRR M2, z_call_eq, if_neg (by decide), show f_X12_in (nI w) 0 1 M2 = some (1, M2) from e_in1 (n := 1) (by omega) hw M2, z_call_eq, if_neg (by decide)]
        rw [e1, e2] at h3
        exact h3
      have hcl : f_X11_stockings 0 (nI R) (nI w) M = some (if nI w = 0 then nI gN else nI gB, M2) := by
        rw [f_X11_stockings, e_within, show f_X12_in (nI R) 0 16777215 M = some (1, M) from e_in1 (n := 16777215) (by omega) hRR M, z_call_eq, if_neg (by decide), e_within, show f_X12_in (nI w) 0 1 M = some (1, M) from e_in1 (n := 1) (by omega) hw M, z_call_eq, if_neg (by decide), (ST.a hS (o := 0) (k := 7) (a := 40) (by decide)), z_rd_eq, (ST.a hS (o := 0) (k := 1) (a := 3) (by decide)), z_rd_eq, hc, z_call_eq]
        by_cases q : nI w = 0
        · rw [if_pos q, if_pos q, c_bitCount hbl, z_call_eq, hpc]
        · rw [if_neg q, if_neg q]
      exact ⟨_, M2, M3, hcl, hm, hIv⟩
    · refine ⟨-1, M, M, ?_, ?_, hI⟩
      · rw [f_X11_stockings, e_within, show f_X12_in (nI R) 0 16777215 M = some (1, M) from e_in1 (n := 16777215) (by omega) hRR M, z_call_eq, if_neg (by decide), e_within, show f_X12_in b 0 1 M = some (0, M) from e_in0 (n := 1) (by omega) hb M, z_call_eq, if_pos rfl]
      · rw [f_X12_stockings, show f_X12_in (nI R) 0 16777215 M = some (1, M) from e_in1 (n := 16777215) (by omega) hRR M, z_call_eq, if_neg (by decide), show f_X12_in b 0 1 M = some (0, M) from e_in0 (n := 1) (by omega) hb M, z_call_eq, if_pos rfl]
  · refine ⟨-1, M, M, ?_, ?_, hI⟩
    · rw [f_X11_stockings, e_within, show f_X12_in a 0 16777215 M = some (0, M) from e_in0 (n := 16777215) (by omega) ha M, z_call_eq, if_pos rfl]
    · rw [f_X12_stockings, show f_X12_in a 0 16777215 M = some (0, M) from e_in0 (n := 16777215) (by omega) ha M, z_call_eq, if_pos rfl]
