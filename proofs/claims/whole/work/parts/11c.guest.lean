/-! a guest comes, or leaves -/
def gst (N : Nat → Nat) (j g s : Nat) : Nat → Nat := fun k => if k = j then g else if k = 24 + j then s else if 120 + 24 * j ≤ k ∧ k < 144 + 24 * j then 0 else N k
theorem gst_o {N : Nat → Nat} {j g s k : Nat} (h1 : k ≠ j) (h2 : k ≠ 24 + j) (h3 : k < 120 + 24 * j ∨ 144 + 24 * j ≤ k) : gst N j g s k = N k := by
  unfold gst
  rw [if_neg h1, if_neg h2, if_neg (by omega)]
theorem gst_g {N : Nat → Nat} {j g s : Nat} : gst N j g s j = g := by unfold gst; rw [if_pos rfl]
theorem gst_s {N : Nat → Nat} {j g s : Nat} : gst N j g s (24 + j) = s := by unfold gst; rw [if_neg (by omega), if_pos rfl]
theorem gst_f {N : Nat → Nat} {j g s k : Nat} (hj : j < 24) (h1 : 120 + 24 * j ≤ k) (h2 : k < 144 + 24 * j) : gst N j g s k = 0 := by
  unfold gst
  rw [if_neg (by omega), if_neg (by omega), if_pos ⟨h1, h2⟩]
theorem NR.gsts {N : Nat → Nat} (hR : NR N) {j g s : Nat} (hj : j < 24) (hg : g ≤ 1) (hs : s ≤ 9999) (hz : g = 0 → s = 0) : NR (gst N j g s) := by
  obtain ⟨r1, r2, r3, r4, r5, r6, r7, r8, r9, r10⟩ := hR
  refine ⟨fun r hr => ?_, fun r hr => ?_, fun r hr => ?_, fun r hr => ?_, fun r hr => ?_, fun k hk => ?_, ?_, ?_, ?_, fun r hr => ?_⟩
  · by_cases e : r = j
    · rw [e, gst_g]; exact hg
    · rw [gst_o e (by omega) (by omega)]; exact r1 r hr
  · by_cases e : r = j
    · rw [e, gst_s]; exact hs
    · rw [gst_o (by omega) (by omega) (by omega)]; exact r2 r hr
  · rw [gst_o (by omega) (by omega) (by omega)]; exact r3 r hr
  · rw [gst_o (by omega) (by omega) (by omega)]; exact r4 r hr
  · rw [gst_o (by omega) (by omega) (by omega)]; exact r5 r hr
  · by_cases e : 120 + 24 * j ≤ 120 + k ∧ 120 + k < 144 + 24 * j
    · rw [gst_f hj e.1 e.2]; omega
    · rw [gst_o (by omega) (by omega) (by omega)]; exact r6 k hk
  · rw [gst_o (by omega) (by omega) (by omega)]; exact r7
  · rw [gst_o (by omega) (by omega) (by omega)]; exact r8
  · rw [gst_o (by omega) (by omega) (by omega)]; exact r9
  · by_cases e : r = j
    · rw [e, gst_g, gst_s]; exact hz
    · rw [gst_o e (by omega) (by omega), gst_o (by omega) (by omega) (by omega)]; exact r10 r hr
theorem c_forget_lp {o j : Nat} (hO : SO o) (hj : j < 24) : ∀ m n i (M : zM), i + m = 24 → m < n → ST M → ∃ M', f_X8_forget_2 o (nI j) n (nI i) M = some ((), M') ∧ Fr [o + 4, o + 5] M M' ∧ (∀ k, M'.1 (o + 4) k = if 24 * j + i ≤ k ∧ k < 24 * j + 24 then 0 else M.1 (o + 4) k) ∧ (∀ r, M'.1 (o + 5) r = if r = j then 0 else M.1 (o + 5) r) := by
  obtain ⟨l1, l2, l3, l4, l5⟩ := hO.lns
  intro m
  induction m with
  | zero =>
    intro n i M hi hn hS
    obtain ⟨r1, r2, r3, r4, r5⟩ := hO.rs hS
    obtain ⟨n, rfl⟩ : ∃ m, n = m + 1 := ⟨n - 1, by omega⟩
    obtain rfl : i = 24 := by omega
    refine ⟨(zu M.1 (o + 5) j 0, M.2), ?_, Fr.zu (by simp), fun k => ?_, fun r => ?_⟩
    · rw [f_X8_forget_2, if_pos (by decide), r5, z_rd_eq, if_pos (by rw [z_ixN (by omega), l5]; exact hj), zl_eq, nI_clamp (by omega)]
    · show zu M.1 (o + 5) j 0 (o + 4) k = _
      rw [zu_cell _ _ _ (by omega), if_neg (by omega)]
    · show zu M.1 (o + 5) j 0 (o + 5) r = _
      rw [zu_self]
      rfl
  | succ m ih =>
    intro n i M hi hn hS
    obtain ⟨r1, r2, r3, r4, r5⟩ := hO.rs hS
    obtain ⟨n, rfl⟩ : ∃ m, n = m + 1 := ⟨n - 1, by omega⟩
    obtain ⟨M', h1, h2, h3, h4⟩ := ih n (i + 1) (zu M.1 (o + 4) (24 * j + i) 0, M.2) (by omega) (by omega) (hS.to rfl)
    refine ⟨M', ?_, (Fr.zu (M := M) (c := o + 4) (by simp)).tr h2, fun k => ?_, fun r => ?_⟩
    · rw [f_X8_forget_2, if_neg (show ¬ (24 : Int32) ≤ nI i from nI_ge (b := 24) (by omega) (by omega)), r4, z_rd_eq, show (24 : Int32) = nI 24 from rfl, nI_mul, nI_add, if_pos (by rw [z_ixN (by omega), l4]; omega), zl_eq, nI_clamp (by omega), zl_eq, nI_1, show j * 24 + i = 24 * j + i by omega]
      exact h1
    · rw [h3 k]
      show (if _ then (0 : Int32) else zu M.1 (o + 4) (24 * j + i) 0 (o + 4) k) = _
      rw [zu_self]
      by_cases e : k = 24 * j + i
      · rw [if_neg (by omega), e, va_eq, if_pos (by omega)]
      · rw [va_ne e]
        by_cases e2 : 24 * j + (i + 1) ≤ k ∧ k < 24 * j + 24
        · rw [if_pos e2, if_pos (by omega)]
        · rw [if_neg e2, if_neg (by omega)]
    · rw [h4 r]
      show (if r = j then (0 : Int32) else zu M.1 (o + 4) (24 * j + i) 0 (o + 5) r) = _
      rw [zu_cell _ _ _ (by omega)]
theorem CS.gsts {M M1 M' : zM} {o j g s : Nat} {N : Nat → Nat} (hC : CS M o N) (hj : j < 24)
    (e0 : M'.1 o = va_up (M.1 o) 5 (nI (g_bits (gst N j g s) 0 24))) (e1 : M'.1 (o + 1) = va_up (M.1 (o + 1)) j (nI s)) (e2 : M'.1 (o + 2) = M.1 (o + 2)) (e3 : M'.1 (o + 3) = M.1 (o + 3)) (e4 : ∀ k, M'.1 (o + 4) k = if 24 * j ≤ k ∧ k < 24 * j + 24 then 0 else M.1 (o + 4) k) (e5 : ∀ r, M'.1 (o + 5) r = if r = j then 0 else M.1 (o + 5) r) : CS M' o (gst N j g s) := by
  obtain ⟨h1, h2, h3, h4, h5, h6, h7, h8, h9, h10⟩ := hC
  refine ⟨fun r hr => ?_, fun r hr => ?_, fun r hr => ?_, fun k hk => ?_, fun r hr => ?_, ?_, ?_, ?_, ?_, ?_⟩
  · rw [e1]
    by_cases e : r = j
    · rw [e, va_eq, gst_s]
    · rw [va_ne e, gst_o (by omega) (by omega) (by omega)]; exact h1 r hr
  · rw [e2, gst_o (by omega) (by omega) (by omega)]; exact h2 r hr
  · rw [e3, gst_o (by omega) (by omega) (by omega)]; exact h3 r hr
  · rw [e4]
    by_cases e : 24 * j ≤ k ∧ k < 24 * j + 24
    · rw [if_pos e, gst_f hj (by omega) (by omega)]; rfl
    · rw [if_neg e, gst_o (by omega) (by omega) (by omega)]; exact h4 k hk
  · rw [e5]
    by_cases e : r = j
    · rw [if_pos e, e, show g_sum (gst N j g s) (120 + 24 * j) 24 = 0 from g_sum_0.mpr (fun k hk => gst_f hj (by omega) (by omega))]; rfl
    · rw [if_neg e, g_sum_congr (N := N) (fun k hk => gst_o (by omega) (by omega) (by omega))]; exact h5 r hr
  · rw [e0, va_eq]
  · rw [e0, va_ne (by omega), g_bits_congr (N := N) (fun k hk => gst_o (by omega) (by omega) (by omega))]; exact h7
  · rw [e0, va_ne (by omega), gst_o (by omega) (by omega) (by omega)]; exact h8
  · rw [e0, va_ne (by omega), gst_o (by omega) (by omega) (by omega)]; exact h9
  · rw [e0, va_ne (by omega), gst_o (by omega) (by omega) (by omega)]; exact h10
theorem gst_bits {N : Nat → Nat} {j g s : Nat} (hj : j < 24) : g_bits (va_up N j g) 0 24 = g_bits (gst N j g s) 0 24 := by
  apply g_bits_congr
  intro k hk
  rw [Nat.zero_add]
  by_cases e : k = j
  · rw [e, va_eq, gst_g]
  · rw [va_ne e, gst_o e (by omega) (by omega)]
theorem c_takeIn {M : zM} {o j s : Nat} {N : Nat → Nat} (hO : SO o) (hS : ST M) (hC : CS M o N) (hR : NR N) (hj : j < 24) : ∃ M', f_X8_takeIn o (nI j) (nI s) M = some ((), M') ∧ Fr (shc o) M M' ∧ CS M' o (gst N j 1 s) := by
  obtain ⟨l1, l2, l3, l4, l5⟩ := hO.lns
  obtain ⟨r1, r2, r3, r4, r5⟩ := hO.rs hS
  have hb : nI (g_bits N 0 24) ||| nI (2 ^ j) = nI (g_bits (gst N j 1 s) 0 24) := by
    have := bits_set (N := N) (b := 0) (j := j) (fun k hk => by rw [Nat.zero_add]; exact hR.1 k hk) hj
    rw [Nat.zero_add] at this
    rw [nI_or, this, gst_bits hj]
  obtain ⟨M', h1, h2, h3, h4⟩ := c_forget_lp hO hj 24 zF 0 (zu (zu M.1 o 5 (nI (g_bits (gst N j 1 s) 0 24))) (o + 1) j (nI s), M.2) (by omega) (by decide) (hS.to rfl)
  have hF : ∀ c, c ≠ o + 4 → c ≠ o + 5 → M'.1 c = zu (zu M.1 o 5 (nI (g_bits (gst N j 1 s) 0 24))) (o + 1) j (nI s) c := fun c a b => h2.1 c (by simp [a, b])
  refine ⟨M', ?_, ⟨fun c hc => ?_, h2.2⟩, hC.gsts (M1 := M) hj ?_ ?_ ?_ ?_ (fun k => ?_) (fun r => ?_)⟩
  · rw [f_X8_takeIn, e_room hj, z_call_eq, if_neg (by decide), nI_bit j (by omega), hC.2.2.2.2.2.1, hb, zl_eq]
    show z_rd (M.2.1 o 0) _ = _
    rw [r1, z_rd_eq, if_pos (by rw [z_ixN (by omega), l1]; exact hj), zl_eq, nI_clamp (by omega), f_X8_forget]
    have h1' : f_X8_forget_2 o (nI j) zF 0 (zu (zu M.1 o 5 (nI (g_bits (gst N j 1 s) 0 24))) (o + 1) j (nI s), M.2) = some ((), M') := h1
    rw [h1', z_call_eq]
  · unfold shc at hc
    simp only [List.mem_cons, List.not_mem_nil, or_false, not_or] at hc
    rw [hF c (by omega) (by omega), zu_cell _ _ _ (by omega), zu_cell _ _ _ (by omega)]
  · rw [hF o (by omega) (by omega), zu_cell _ _ _ (by omega), zu_self]
  · rw [hF (o + 1) (by omega) (by omega), zu_self, zu_cell _ _ _ (by omega)]
  · rw [hF (o + 2) (by omega) (by omega), zu_cell _ _ _ (by omega), zu_cell _ _ _ (by omega)]
  · rw [hF (o + 3) (by omega) (by omega), zu_cell _ _ _ (by omega), zu_cell _ _ _ (by omega)]
  · rw [h3 k, Nat.add_zero]
    show (if _ then (0 : Int32) else zu (zu M.1 o 5 _) (o + 1) j (nI s) (o + 4) k) = _
    rw [zu_cell _ _ _ (by omega), zu_cell _ _ _ (by omega)]
  · rw [h4 r]
    show (if _ then (0 : Int32) else zu (zu M.1 o 5 _) (o + 1) j (nI s) (o + 5) r) = _
    rw [zu_cell _ _ _ (by omega), zu_cell _ _ _ (by omega)]
theorem m_lay_lp {j : Nat} (hj : j < 24) : ∀ m n i (M : zM), i + m = 24 → m < n → ST M → ∃ M', f_X12_laysGuest_22 54 (nI j) n (nI i) M = some ((), M') ∧ Fr [55] M M' ∧ (∀ k, M'.1 55 k = if 120 + 24 * j + i ≤ k ∧ k < 144 + 24 * j then 0 else M.1 55 k) := by
  intro m
  induction m with
  | zero =>
    intro n i M hi hn hS
    obtain ⟨n, rfl⟩ : ∃ m, n = m + 1 := ⟨n - 1, by omega⟩
    obtain rfl : i = 24 := by omega
    refine ⟨M, ?_, Fr.rf, fun k => ?_⟩
    · rw [f_X12_laysGuest_22, if_pos (by decide)]
    · rw [if_neg (by omega)]
  | succ m ih =>
    intro n i M hi hn hS
    obtain ⟨n, rfl⟩ : ∃ m, n = m + 1 := ⟨n - 1, by omega⟩
    obtain ⟨M', h1, h2, h3⟩ := ih n (i + 1) (zu M.1 55 (120 + 24 * j + i) 0, M.2) (by omega) (by omega) (hS.to rfl)
    refine ⟨M', ?_, (Fr.zu (M := M) (c := 55) (by simp)).tr h2, fun k => ?_⟩
    · rw [f_X12_laysGuest_22, if_neg (show ¬ (24 : Int32) ≤ nI i from nI_ge (b := 24) (by omega) (by omega)), (ST.a hS (o := 54) (k := 0) (a := 55) (by decide)), z_rd_eq, f_X12_felt, z_call_eq, show (120 + 24 * nI j + nI i : Int32) = nI (120 + 24 * j + i) by simp only [lit, nI_mul, nI_add], if_pos (by rw [z_ixN (by omega), ln55]; omega), zl_eq, nI_clamp (by omega), zl_eq, nI_1]
      exact h1
    · rw [h3 k]
      show (if _ then (0 : Int32) else zu M.1 55 (120 + 24 * j + i) 0 55 k) = _
      rw [zu_self]
      by_cases e : k = 120 + 24 * j + i
      · rw [if_neg (by omega), e, va_eq, if_pos (by omega)]
      · rw [va_ne e]
        by_cases e2 : 120 + 24 * j + (i + 1) ≤ k ∧ k < 144 + 24 * j
        · rw [if_pos e2, if_pos (by omega)]
        · rw [if_neg e2, if_neg (by omega)]
theorem m_laysGuest {M : zM} {j g s : Nat} {N : Nat → Nat} (hS : ST M) (hN : MN M 55 N) (hj : j < 24) : ∃ M', f_X12_laysGuest 54 (nI j) (nI g) (nI s) M = some ((), M') ∧ Fr [55] M M' ∧ MN M' 55 (gst N j g s) := by
  obtain ⟨M', h1, h2, h3⟩ := m_lay_lp hj 24 zF 0 (zu (zu M.1 55 j (nI g)) 55 (24 + j) (nI s), M.2) (by omega) (by decide) (hS.to rfl)
  refine ⟨M', ?_, ((Fr.zu (M := M) (c := 55) (by simp)).tr (Fr.zu (M := (zu M.1 55 j (nI g), M.2)) (c := 55) (by simp))).tr h2, fun k hk => ?_⟩
  · rw [f_X12_laysGuest, (ST.a hS (o := 54) (k := 0) (a := 55) (by decide)), z_rd_eq, show (0 + nI j : Int32) = nI (0 + j) by simp only [lit, nI_add], Nat.zero_add, if_pos (by rw [z_ixN (by omega), ln55]; omega), zl_eq, nI_clamp (by omega)]
    show z_rd (M.2.1 54 0) _ = _
    rw [(ST.a hS (o := 54) (k := 0) (a := 55) (by decide)), z_rd_eq, show (24 + nI j : Int32) = nI (24 + j) by simp only [lit, nI_add], if_pos (by rw [z_ixN (by omega), ln55]; omega), zl_eq, nI_clamp (by omega)]
    exact h1
  · rw [h3 k, Nat.add_zero]
    show (if _ then (0 : Int32) else zu (zu M.1 55 j (nI g)) 55 (24 + j) (nI s) 55 k) = _
    rw [zu_self, zu_self]
    by_cases e1 : k = j
    · rw [if_neg (by omega), va_ne (by omega), e1, va_eq, gst_g]
    · by_cases e2 : k = 24 + j
      · rw [if_neg (by omega), e2, va_eq, gst_s]
      · by_cases e3 : 120 + 24 * j ≤ k ∧ k < 144 + 24 * j
        · rw [if_pos e3, gst_f hj e3.1 e3.2]; rfl
        · rw [if_neg e3, va_ne e2, va_ne e1, gst_o e1 e2 (by omega)]; exact hN k hk
theorem p_guest : ok_guest Inv := by
  intro M hI a b
  obtain ⟨N, K, hS, hR, hN, hC, hK, hT, hL⟩ := id hI
  rcases room_cases a with ⟨j, hj, rfl⟩ | ha
  · rcases f_in_cases b 9999 (by omega) with ⟨s, hs, rfl⟩ | hb
    · obtain ⟨M1, h1, f1, c1⟩ := c_takeIn (s := s) hO3 hS hC hR hj
      obtain ⟨M2, h2, f2, n2⟩ := m_laysGuest (g := 1) (s := s) (f1.st hS) (hN.to (f1.1 55 (by decide))) hj
      refine ⟨1, M1, M2, ?_, ?_, ?_⟩
      · rw [f_X11_guest, e_room hj, z_call_eq, if_neg (by decide), e_within, show (9999 : Int32) = nI 9999 from rfl, e_in1 (by omega) hs, z_call_eq, if_neg (by decide), (ST.a hS (o := 0) (k := 1) (a := 3) (by decide)), z_rd_eq, h1, z_call_eq]
      · rw [f_X12_guest, e_room2 hj, z_call_eq, if_neg (by decide), show (9999 : Int32) = nI 9999 from rfl, e_in1 (by omega) hs, z_call_eq, if_neg (by decide), show (1 : Int32) = nI 1 from rfl, h2, z_call_eq]
      · refine Inv.of hS hK hT hL ((f1.mono ?_).tr (f2.mono ?_)) (hR.gsts hj (by omega) hs (by omega)) n2 (c1.to (fun c q1 q2 => f2.1 c (by simp; omega)))
        · intro c hc; unfold shc at hc; simp at hc ⊢; omega
        · intro c hc; simp at hc ⊢; omega
    · refine ⟨0, M, M, ?_, ?_, hI⟩
      · rw [f_X11_guest, e_room hj, z_call_eq, if_neg (by decide), e_within, show (9999 : Int32) = nI 9999 from rfl, e_in0 (by omega) hb, z_call_eq, if_pos rfl]
      · rw [f_X12_guest, e_room2 hj, z_call_eq, if_neg (by decide), show (9999 : Int32) = nI 9999 from rfl, e_in0 (by omega) hb, z_call_eq, if_pos rfl]
  · refine ⟨0, M, M, ?_, ?_, hI⟩
    · rw [f_X11_guest, (ha M).1, z_call_eq, if_pos rfl]
    · rw [f_X12_guest, (ha M).2, z_call_eq, if_pos rfl]
