/-! hours in the class -/
def CA (M : zM) (q o : Nat) (L : Nat → Nat → Int32) (nr : Nat) (G : (Nat → Nat) × Nat × Nat × Nat) : Prop := ST M ∧ M.2.1 37 0 = some o ∧ M.2.1 37 1 = some q ∧ LQ M q L nr ∧ CS M o G.1 ∧ M.1 37 2 = nI G.2.1 ∧ M.1 37 3 = nI G.2.2.1 ∧ M.1 37 4 = nI G.2.2.2
def CFl (q o : Nat) : List Nat := [q, q + 7, 37, o, o + 1, o + 2, o + 3, o + 4, o + 5]
def CF (q o : Nat) (M M' : zM) : Prop := FX (CFl q o) M M' ∧ ∀ j, j < 9 → M'.1 q j = M.1 q j
theorem CF.rf {q o : Nat} {M : zM} : CF q o M M := ⟨FX.rf, fun _ _ => rfl⟩
theorem CF.tr {q o : Nat} {M M1 M2 : zM} (h1 : CF q o M M1) (h2 : CF q o M1 M2) : CF q o M M2 := ⟨h1.1.tr h2.1, fun j hj => (h2.2 j hj).trans (h1.2 j hj)⟩
theorem qo_lt {q o : Nat} (hq : LO q) (hO : SO o) : o + 5 < q ∧ q + 7 < 37 := by rcases hq with rfl | rfl <;> rcases hO with rfl | rfl | rfl <;> omega
theorem CA.fq {M M' : zM} {q o nr : Nat} {L : Nat → Nat → Int32} {G : (Nat → Nat) × Nat × Nat × Nat} (hq : LO q) (hO : SO o) (h : CA M q o L nr G) (hF : FQ q M M') : CA M' q o L nr G ∧ CF q o M M' := by
  obtain ⟨h1, h2, h3, h4, h5, h6, h7, h8⟩ := h
  have hqo := qo_lt hq hO
  have e37 : M'.1 37 = M.1 37 := hF.c (by omega) (by omega)
  refine ⟨⟨hF.1.st h1, by rw [hF.1.2]; exact h2, by rw [hF.1.2]; exact h3, h4.to hF, h5.to (fun c a b => hF.c (by omega) (by omega)), by rw [e37]; exact h6, by rw [e37]; exact h7, by rw [e37]; exact h8⟩, (Fr.mono hF.1 ?_).X, fun j hj => hF.2 j (by simp; omega)⟩
  intro c hc
  unfold CFl
  simp at hc ⊢
  omega
theorem CA.lk {M : zM} {q o nr r p m : Nat} {L : Nat → Nat → Int32} {G : (Nat → Nat) × Nat × Nat × Nat} (hq : LO q) (hO : SO o) (h : CA M q o L nr G) : ∃ M', f_X4_look q o (nI r) (nI p) (nI m) M = some ((), M') ∧ CA M' q o L nr G ∧ CF q o M M' ∧ LK M' q o G.1 r p m := by
  obtain ⟨h1, h2, h3, h4, h5, h6, h7, h8⟩ := h
  have hqo := qo_lt hq hO
  obtain ⟨M', i1, i2, i3, i4, i5⟩ := c_look (r := r) (p := p) (m := m) hq hO h5
  have e : ∀ c, c ≠ q → M'.1 c = M.1 c := fun c hc => i2.1 c (by simpa using hc)
  refine ⟨M', i1, ⟨i2.st h1, by rw [i4 37 0 (by omega)]; exact h2, by rw [i4 37 1 (by omega)]; exact h3, ?_, i5.2.2.2.2, by rw [e 37 (by omega)]; exact h6, by rw [e 37 (by omega)]; exact h7, by rw [e 37 (by omega)]; exact h8⟩, ⟨i2.mono ?_, fun j hj => i3 j (by omega)⟩, i5⟩
  · obtain ⟨nc, k1, k2, k3, k4, k5⟩ := h4
    refine ⟨nc, k1, k2, (i3 6 (by omega)).trans k3, (i3 7 (by omega)).trans k4, ?_⟩
    rw [e (q + 1) (by omega), e (q + 2) (by omega), e (q + 3) (by omega), e (q + 4) (by omega), e (q + 5) (by omega), e (q + 6) (by omega)]
    exact k5
  · intro c hc
    unfold CFl
    simp at hc ⊢
    omega
theorem CA.sh {M M' : zM} {q o nr : Nat} {L : Nat → Nat → Int32} {G : (Nat → Nat) × Nat × Nat × Nat} {N' : Nat → Nat} (hq : LO q) (hO : SO o) (h : CA M q o L nr G) (hF : Fr (shc o) M M') (hC : CS M' o N') : CA M' q o L nr (N', G.2) ∧ CF q o M M' := by
  obtain ⟨h1, h2, h3, h4, h5, h6, h7, h8⟩ := h
  have hqo := qo_lt hq hO
  have e : ∀ c, o + 5 < c → M'.1 c = M.1 c := fun c hc => hF.c (by unfold shc; simp; omega)
  refine ⟨⟨hF.st h1, by rw [hF.2]; exact h2, by rw [hF.2]; exact h3, ?_, hC, by rw [e 37 (by omega)]; exact h6, by rw [e 37 (by omega)]; exact h7, by rw [e 37 (by omega)]; exact h8⟩, (hF.mono ?_).X, fun j hj => by rw [e q (by omega)]⟩
  · obtain ⟨nc, k1, k2, k3, k4, k5⟩ := h4
    refine ⟨nc, k1, k2, by rw [e q (by omega)]; exact k3, by rw [e q (by omega)]; exact k4, ?_⟩
    rw [e (q + 1) (by omega), e (q + 2) (by omega), e (q + 3) (by omega), e (q + 4) (by omega), e (q + 5) (by omega), e (q + 6) (by omega)]
    exact k5
  · intro c hc
    unfold shc at hc
    unfold CFl
    simp at hc ⊢
    omega
theorem CA.ct {M : zM} {q o nr j : Nat} {v : Int32} {L : Nat → Nat → Int32} {G : (Nat → Nat) × Nat × Nat × Nat} {c s w : Nat} (hq : LO q) (hO : SO o) (h : CA M q o L nr G) (e2 : va_up (M.1 37) j v 2 = nI c) (e3 : va_up (M.1 37) j v 3 = nI s) (e4 : va_up (M.1 37) j v 4 = nI w) : CA (zu M.1 37 j v, M.2) q o L nr (G.1, c, s, w) ∧ CF q o M (zu M.1 37 j v, M.2) := by
  obtain ⟨h1, h2, h3, h4, h5, h6, h7, h8⟩ := h
  have hqo := qo_lt hq hO
  have hF : Fr [37] M (zu M.1 37 j v, M.2) := Fr.zu (by simp)
  have e : ∀ c, c ≠ 37 → (zu M.1 37 j v, M.2).1 c = M.1 c := fun c hc => zu_cell _ _ _ hc
  refine ⟨⟨hF.st h1, h2, h3, ?_, h5.to (fun c a b => e c (by omega)), by show zu M.1 37 j v 37 2 = _; rw [zu_self]; exact e2, by show zu M.1 37 j v 37 3 = _; rw [zu_self]; exact e3, by show zu M.1 37 j v 37 4 = _; rw [zu_self]; exact e4⟩, (hF.mono ?_).X, fun j hj => by rw [e q (by omega)]⟩
  · obtain ⟨nc, k1, k2, k3, k4, k5⟩ := h4
    refine ⟨nc, k1, k2, by rw [e q (by omega)]; exact k3, by rw [e q (by omega)]; exact k4, ?_⟩
    rw [e (q + 1) (by omega), e (q + 2) (by omega), e (q + 3) (by omega), e (q + 4) (by omega), e (q + 5) (by omega), e (q + 6) (by omega)]
    exact k5
  · intro c hc
    unfold CFl
    simp at hc ⊢
    omega
theorem LK.sh {M M' : zM} {q o r p m : Nat} {N N' : Nat → Nat} (hq : LO q) (hO : SO o) (h : LK M q o N r p m) (hF : Fr (shc o) M M') (hC : CS M' o N') : LK M' q o N' r p m := by
  obtain ⟨h1, h2, h3, h4, h5⟩ := h
  have hqo := qo_lt hq hO
  have e : M'.1 q = M.1 q := hF.c (by unfold shc; simp; omega)
  exact ⟨by rw [e]; exact h1, by rw [e]; exact h2, by rw [e]; exact h3, by rw [hF.2]; exact h4, hC⟩
theorem c_addGrease {M : zM} {o p a : Nat} {N : Nat → Nat} (hO : SO o) (hS : ST M) (hC : CS M o N) (hR : NR N) (hp : p < 24) (ha : a ≤ 99) : ∃ M', f_X8_addGrease o (nI p) (nI a) M = some ((), M') ∧ Fr (shc o) M M' ∧ CS M' o (va_up N (96 + p) (min 99999 (N (96 + p) + a))) := by
  obtain ⟨l1, l2, l3, l4, l5⟩ := hO.lns
  obtain ⟨r1, r2, r3, r4, r5⟩ := hO.rs hS
  have hg := hR.2.2.2.2.1 p hp
  refine ⟨(zu M.1 (o + 3) p (nI (min 99999 (N (96 + p) + a))), M.2), ?_, Fr.zu (by simp [shc]), hC.gre hp⟩
  rw [f_X8_addGrease, e_room hp, z_call_eq, if_neg (by decide), r3, z_rd_eq, z_rd_eq, l3, if_pos (by rw [z_ixN (by omega)]; omega), if_pos (by rw [z_ixN (by omega)]; omega), zl_eq, nI_clamp (by omega), hC.2.2.1 p hp, nI_add, show (99999 : Int32) = nI 99999 from rfl, nI_min (by omega) (by omega)]
theorem c_addFelt {M : zM} {o p r a : Nat} {N : Nat → Nat} (hO : SO o) (hS : ST M) (hC : CS M o N) (hR : NR N) (hp : p < 24) (hr : r < 24) (ha : a ≤ 99) : ∃ M', f_X8_addFelt o (nI p) (nI r) (nI a) M = some ((), M') ∧ Fr (shc o) M M' ∧ CS M' o (gFe N r p a) := by
  obtain ⟨l1, l2, l3, l4, l5⟩ := hO.lns
  obtain ⟨r1, r2, r3, r4, r5⟩ := hO.rs hS
  have hg := hR.2.2.2.2.2.1 (p * 24 + r) (by omega)
  have c4 := hC.2.2.2.1 (p * 24 + r) (by omega)
  have c5 := hC.2.2.2.2.1 p hp
  rw [show 120 + (p * 24 + r) = 120 + 24 * p + r by omega] at hg c4
  have gs := (g_sum_set (N := N) (b := 120 + 24 * p) (i := r) (v := min 99999 (N (120 + 24 * p + r) + a)) 24).1 hr
  refine ⟨_, ?_, ?_, hC.fel (s := min 99999 (N (120 + 24 * p + r) + a)) hp hr⟩
  · rw [f_X8_addFelt, e_room hp, z_call_eq, if_neg (by decide), e_room hr, z_call_eq, if_neg (by decide), r4, z_rd_eq, show (nI p * 24 + nI r : Int32) = nI (p * 24 + r) by simp only [lit, nI_mul, nI_add], l4, if_pos (by rw [z_ixN (by omega)]; omega), zl_eq, zl_eq, z_rd_eq, l4, if_pos (by rw [z_ixN (by omega)]; omega), zl_eq, nI_clamp (by omega), c4, nI_add, show (99999 : Int32) = nI 99999 from rfl, nI_min (by omega) (by omega), r5, z_rd_eq, l5, if_pos (by rw [z_ixN (by omega)]; omega), if_pos (by rw [z_ixN (by omega)]; omega), zl_eq, nI_clamp (by omega), nI_sub (by omega)]
    have : zu M.1 (o + 4) (p * 24 + r) (nI (min 99999 (N (120 + 24 * p + r) + a))) (o + 5) p = nI (g_sum N (120 + 24 * p) 24) := by rw [zu_cell _ _ _ (by omega)]; exact c5
    show some ((), (zu (zu M.1 (o + 4) (p * 24 + r) (nI (min 99999 (N (120 + 24 * p + r) + a)))) (o + 5) p (zu M.1 (o + 4) (p * 24 + r) (nI (min 99999 (N (120 + 24 * p + r) + a))) (o + 5) p + _), M.2)) = _
    rw [this, nI_add, show g_sum N (120 + 24 * p) 24 + (min 99999 (N (120 + 24 * p + r) + a) - N (120 + 24 * p + r)) = g_sum (va_up N (120 + 24 * p + r) (min 99999 (N (120 + 24 * p + r) + a))) (120 + 24 * p) 24 by omega]
  · exact (Fr.zu (by simp [shc])).tr (Fr.zu (M := (zu M.1 (o + 4) (p * 24 + r) (nI (min 99999 (N (120 + 24 * p + r) + a))), M.2)) (by simp [shc]))
theorem and65535 {a : Nat} (h : a < 2 ^ 31) : nI a &&& 65535 = nI (a % 65536) := by
  rw [show (65535 : Int32) = nI 65535 from rfl, nI_and, show 65535 = 2 ^ 16 - 1 from rfl, Nat.and_two_pow_sub_one_eq_mod]
theorem rem10 {j : Nat} (h : j < 2 ^ 31) : nI j - nI j / 10 * 10 = nI (j % 10) := pk_rem (d := 10) h (by omega) (by omega)
theorem c_draw {M : zM} {o : Nat} {N : Nat → Nat} (hC : CS M o N) (hR : NR N) : ∃ M', f_X8_draw o M = some (nI (gLo N 698 % 10), M') ∧ Fr (shc o) M M' ∧ CS M' o (gLo N) := by
  have hx := hR.2.2.2.2.2.2.2.2.1
  refine ⟨(zu M.1 o 9 (nI ((25173 * N 698 + 13849) % 65536)), M.2), ?_, Fr.zu (by simp [shc]), hC.lot⟩
  rw [f_X8_draw, hC.2.2.2.2.2.2.2.2.2, show (25173 * nI (N 698) + 13849 : Int32) = nI (25173 * N 698 + 13849) by simp only [lit, nI_mul, nI_add], and65535 (by omega), zl_eq]
  have : (zu M.1 o 9 (nI ((25173 * N 698 + 13849) % 65536)), M.2).1 o 9 = nI ((25173 * N 698 + 13849) % 65536) := zu_same _ _ _ _
  rw [this, rem10 (by omega)]
  unfold gLo
  rw [va_eq]
theorem fcs_lo {N : Nat → Nat} {r p m : Nat} (hr : r < 24) (hp : p < 24) : fcs (gLo N) r p m = fcs N r p m := by
  have e : ∀ k, k < 698 → gLo N k = N k := fun k hk => va_ne (by omega)
  funext j
  unfold fcs
  rw [e (24 + r) (by omega), e (96 + p) (by omega), e 697 (by omega), g_sum_congr (N := N) (N' := gLo N) (fun k hk => e _ (by omega))]
theorem c_180 {M : zM} {q o nr left : Nat} {L : Nat → Nat → Int32} {G : (Nat → Nat) × Nat × Nat × Nat} (hq : LO q) (hO : SO o) (h : CA M q o L nr G) (hR : NR G.1) (hl : left ≤ 99) : ∃ M', f_X0_rise_180 37 (nI left) M = some ((), M') ∧ CA M' q o L nr (gCo G left) ∧ CF q o M M' := by
  have hx := hR.2.2.2.2.2.2.1
  obtain ⟨h1, h2, h3, h4, h5, h6, h7, h8⟩ := id h
  have hqo := qo_lt hq hO
  obtain ⟨a1, a2⟩ := h.sh hq hO (M' := (zu M.1 o 7 (nI (min 999999 (G.1 696 + left))), M.2)) (Fr.zu (by simp [shc])) h5.cow
  have e37 : (zu M.1 o 7 (nI (min 999999 (G.1 696 + left))), M.2).1 37 = M.1 37 := zu_cell _ _ _ (by omega)
  obtain ⟨b1, b2⟩ := a1.ct (j := 4) (v := nI (G.2.2.2 + left)) (c := G.2.1) (s := G.2.2.1) (w := G.2.2.2 + left) hq hO (by rw [e37, va_ne (by omega)]; exact h6) (by rw [e37, va_ne (by omega)]; exact h7) (by rw [va_eq])
  refine ⟨_, ?_, b1, a2.tr b2⟩
  rw [f_X0_rise_180, h2, z_rd_eq, z_rd_eq, zl_eq, zl_eq, h5.2.2.2.2.2.2.2.1, nI_add, show (999999 : Int32) = nI 999999 from rfl, nI_min (by omega) (by omega), e37, h8, nI_add]
theorem c_163 {M : zM} {q o nr p x n : Nat} {k : Int32 → Int32 → Int32 → zM → Option (Unit × zM)} {y l : Int32} {L : Nat → Nat → Int32} {G : (Nat → Nat) × Nat × Nat × Nat} (hO : SO o) (h : CA M q o L nr G) (hR : NR G.1) (hp : p < 24) : f_X0_rise_163 37 y k l (nI p) (nI x) M = k l (nI (abv G.1 p)) (nI (x + 1)) M := by
  obtain ⟨h1, h2, h3, h4, h5, h6, h7, h8⟩ := h
  rw [f_X0_rise_163, h2, z_rd_eq, c_above hO h1 h5 hR hp, z_call_eq, zl_eq, nI_1]
theorem c_ris_lp {q o nr r : Nat} {L : Nat → Nat → Int32} (hq : LO q) (hO : SO o) (hr : r < 24) : ∀ m n G left p x (M : zM), p ≤ 24 → 6 - p / 4 ≤ m → x + (6 - p / 4) ≤ 5 → m < n → CA M q o L nr G → NR G.1 → left ≤ 99 → ∃ M', f_X0_rise_15 37 (nI r) n (nI left) (nI p) (nI x) M = some ((), M') ∧ CA M' q o L nr (gRi L nr r m G left p) ∧ CF q o M M' := by
  intro m
  induction m with
  | zero =>
    intro n G left p x M hp h6 hx hn hA hR hl
    obtain ⟨n, rfl⟩ : ∃ z, n = z + 1 := ⟨n - 1, by omega⟩
    obtain rfl : p = 24 := by omega
    obtain ⟨M', i1, i2, i3⟩ := c_180 hq hO hA hR hl
    refine ⟨M', ?_, i2, i3⟩
    rw [f_X0_rise_15]
    by_cases h5 : (5 : Int32) ≤ nI x
    · rw [if_pos h5]; exact i1
    · rw [if_neg h5, show f_X11_isRoom (nI 24) M = some (0, M) from by rw [f_X11_isRoom, if_neg (by decide), if_pos (by decide)], z_call_eq, if_pos rfl]; exact i1
  | succ m ih =>
    intro n G left p x M hp h6 hx hn hA hR hl
    obtain ⟨n, rfl⟩ : ∃ z, n = z + 1 := ⟨n - 1, by omega⟩
    rw [gRi]
    by_cases h24 : p = 24
    · subst h24
      rw [if_pos rfl]
      obtain ⟨M', i1, i2, i3⟩ := c_180 hq hO hA hR hl
      refine ⟨M', ?_, i2, i3⟩
      rw [f_X0_rise_15]
      by_cases h5 : (5 : Int32) ≤ nI x
      · rw [if_pos h5]; exact i1
      · rw [if_neg h5, show f_X11_isRoom (nI 24) M = some (0, M) from by rw [f_X11_isRoom, if_neg (by decide), if_pos (by decide)], z_call_eq, if_pos rfl]; exact i1
    · have hp' : p < 24 := by omega
      have hx5 : x < 5 := by omega
      have hh := hR.2.2.2.2.2.2.2.1
      obtain ⟨s0, a0, a1, _⟩ := id hA
      obtain ⟨M1, i1, i2, i3, i4⟩ := hA.lk (r := r) (p := p) (m := left) hq hO
      obtain ⟨M2, j1, j2⟩ := c_amountOf (kd := 107) (hi := 99) hq hO hr hp' hh (by decide) (by decide) i2.1 i2.2.2.2.1 i4
      obtain ⟨j3, j4⟩ := i2.fq hq hO j2
      obtain ⟨a, ha, hby⟩ := byL_b (L := L) (fc := fcs G.1 r p left) (kd := 107) (h := 99) (by omega) nr 0
      have hks : gKs L nr G.1 r p left = min left a := by
        unfold gKs
        rw [show (99 : Int32) = nI 99 from rfl, hby, tn_nI (by omega)]
      have hby' : byL L (fcs G.1 r p left) 107 99 nr 0 = nI a := hby
      obtain ⟨M3, k1, k2, k3⟩ := c_addGrease (p := p) (a := min left a) hO j3.1 j3.2.2.2.2.1 hR hp' (by omega)
      obtain ⟨k4, k5⟩ := j3.sh hq hO k2 k3
      obtain ⟨k6, k7⟩ := k4.ct (j := 3) (v := nI (G.2.2.1 + min left a)) (c := G.2.1) (s := G.2.2.1 + min left a) (w := G.2.2.2) hq hO (by rw [va_ne (by omega)]; exact k4.2.2.2.2.2.1) (by rw [va_eq]) (by rw [va_ne (by omega)]; exact k4.2.2.2.2.2.2.2)
      have hN1 : va_up G.1 (96 + p) (min 99999 (G.1 (96 + p) + min left a)) = gN1 L nr G.1 r p left := by unfold gN1; rw [hks]
      rw [hN1] at k6
      have R1 : NR (gN1 L nr G.1 r p left) := gN1_R hR hp'
      have CF1 := ((i3.tr j4).tr k5).tr k7
      have head : f_X0_rise_15 37 (nI r) (n + 1) (nI left) (nI p) (nI x) M = (if nI (left - min left a) = 0 then some ((), (zu M3.1 37 3 (nI (G.2.2.1 + min left a)), M3.2)) else z_call (f_X4_look q o (nI r) (nI p) (nI (left - min left a)) (zu M3.1 37 3 (nI (G.2.2.1 + min left a)), M3.2)) fun v_25 M_26 => z_rd (M_26.2.1 37 0) fun a_28 => z_call (f_X8_takesPart a_28 (nI p) M_26) fun v_29 M_30 => (if v_29 = 0 then (f_X0_rise_163 37 (nI r) (f_X0_rise_15 37 (nI r) n) (nI (left - min left a)) (nI p) (nI x) M_30) else z_rd (M_30.2.1 37 0) fun a_33 => z_call (f_X8_draw a_33 M_30) fun v_34 M_35 => z_rd (M_35.2.1 37 1) fun a_37 => z_call (f_X4_amountOf a_37 100 10 M_35) fun v_38 M_39 => (if v_38 ≤ v_34 then (f_X0_rise_163 37 (nI r) (f_X0_rise_15 37 (nI r) n) (nI (left - min left a)) (nI p) (nI x) M_39) else z_rd (M_39.2.1 37 0) fun a_42 => z_call (f_X8_addFelt a_42 (nI p) (nI r) (nI (left - min left a)) M_39) fun v_43 M_44 => zl (zu M_44.1 37 2 ((M_44.1 37 2) + (nI (left - min left a))), M_44.2) fun M_46 => some ((), M_46)))) := by
        rw [f_X0_rise_15, if_neg (show ¬ (5 : Int32) ≤ nI x from nI_ge (b := 5) hx5 (by omega)), e_room hp', z_call_eq, if_neg (by decide), a1, z_rd_eq, a0, z_rd_eq, i1, z_call_eq, i2.2.2.1, z_rd_eq, j1, z_call_eq, hby', zl_eq, nI_min (by omega) (by omega), Nat.min_comm, j3.2.1, z_rd_eq, k1, z_call_eq, zl_eq, k4.2.2.2.2.2.2.1, nI_add, zl_eq, nI_sub (by omega)]
        rw [k6.2.2.1, z_rd_eq, k6.2.1, z_rd_eq]
      rw [head, if_neg h24, hks]
      by_cases h0 : left - min left a = 0
      · rw [if_pos h0, if_pos (by rw [h0]; rfl)]
        exact ⟨_, rfl, k6, CF1⟩
      · rw [if_neg h0, if_neg (nI_nz h0 (by omega))]
        obtain ⟨M5, l1, l2, l3, l4⟩ := k6.lk (r := r) (p := p) (m := left - min left a) hq hO
        rw [l1, z_call_eq, l2.2.1, z_rd_eq, c_takesPart l2.2.2.2.2.1 R1 hp', z_call_eq]
        by_cases ht : tk (gN1 L nr G.1 r p left) p = true
        · rw [if_pos ht, if_pos ht, if_neg (by decide), l2.2.1, z_rd_eq]
          obtain ⟨M6, m1, m2, m3⟩ := c_draw l2.2.2.2.2.1 R1
          obtain ⟨m4, m5⟩ := l2.sh hq hO m2 m3
          have m6 := l4.sh hq hO m2 m3
          have R2 : NR (gLo (gN1 L nr G.1 r p left)) := gLo_R R1
          obtain ⟨M7, n1, n2⟩ := c_amountOf (kd := 100) (hi := 10) hq hO hr hp' R2.2.2.2.2.2.2.2.1 (by decide) (by decide) m4.1 m4.2.2.2.1 m6
          obtain ⟨n3, n4⟩ := m4.fq hq hO n2
          rw [fcs_lo hr hp'] at n1
          obtain ⟨d, hd, hdy⟩ := byL_b (L := L) (fc := fcs (gN1 L nr G.1 r p left) r p (left - min left a)) (kd := 100) (h := 10) (by omega) nr 0
          have hds : gDs L nr (gN1 L nr G.1 r p left) r p (left - min left a) = d := by
            unfold gDs
            rw [show (10 : Int32) = nI 10 from rfl, hdy, tn_nI (by omega)]
          have hdy' : byL L (fcs (gN1 L nr G.1 r p left) r p (left - min left a)) 100 10 nr 0 = nI d := hdy
          rw [m1, z_call_eq, m4.2.2.1, z_rd_eq, n1, z_call_eq, hdy', hds]
          have hm : gLo (gN1 L nr G.1 r p left) 698 % 10 < 10 := Nat.mod_lt _ (by omega)
          by_cases hlt : gLo (gN1 L nr G.1 r p left) 698 % 10 < d
          · rw [if_pos hlt, if_neg (nI_ge hlt (by omega)), n3.2.1, z_rd_eq]
            obtain ⟨M8, o1, o2, o3⟩ := c_addFelt (a := left - min left a) hO n3.1 n3.2.2.2.2.1 R2 hp' hr (by omega)
            obtain ⟨o4, o5⟩ := n3.sh hq hO o2 o3
            obtain ⟨o6, o7⟩ := o4.ct (j := 2) (v := nI (G.2.1 + (left - min left a))) (c := G.2.1 + (left - min left a)) (s := G.2.2.1 + min left a) (w := G.2.2.2) hq hO (by rw [va_eq]) (by rw [va_ne (by omega)]; exact o4.2.2.2.2.2.2.1) (by rw [va_ne (by omega)]; exact o4.2.2.2.2.2.2.2)
            rw [o1, z_call_eq, zl_eq, o4.2.2.2.2.2.1, nI_add]
            exact ⟨_, rfl, o6, (((CF1.tr l3).tr m5).tr n4).tr (o5.tr o7)⟩
          · rw [if_neg hlt, if_pos (nI_le (Nat.le_of_not_lt hlt) (by omega)), c_163 (n := n) hO n3 R2 hp']
            by_cases hp20 : p < 20
            · have hab := abv_lt (N := gLo (gN1 L nr G.1 r p left)) hp20
              obtain ⟨M', u1, u2, u3⟩ := ih n _ (left - min left a) (abv (gLo (gN1 L nr G.1 r p left)) p) (x + 1) M7 (by omega) (by omega) (by omega) (by omega) n3 R2 (by omega)
              exact ⟨M', u1, u2, (((CF1.tr l3).tr m5).tr n4).tr u3⟩
            · have hab := abv_hi (N := gLo (gN1 L nr G.1 r p left)) (show 20 ≤ p by omega)
              obtain ⟨M', u1, u2, u3⟩ := ih n _ (left - min left a) (abv (gLo (gN1 L nr G.1 r p left)) p) (x + 1) M7 (by omega) (by omega) (by omega) (by omega) n3 R2 (by omega)
              exact ⟨M', u1, u2, (((CF1.tr l3).tr m5).tr n4).tr u3⟩
        · rw [if_neg ht, if_neg ht, if_pos rfl, c_163 (n := n) hO l2 R1 hp']
          by_cases hp20 : p < 20
          · have hab := abv_lt (N := gN1 L nr G.1 r p left) hp20
            obtain ⟨M', u1, u2, u3⟩ := ih n _ (left - min left a) (abv (gN1 L nr G.1 r p left) p) (x + 1) M5 (by omega) (by omega) (by omega) (by omega) l2 R1 (by omega)
            exact ⟨M', u1, u2, (CF1.tr l3).tr u3⟩
          · have hab := abv_hi (N := gN1 L nr G.1 r p left) (show 20 ≤ p by omega)
            obtain ⟨M', u1, u2, u3⟩ := ih n _ (left - min left a) (abv (gN1 L nr G.1 r p left) p) (x + 1) M5 (by omega) (by omega) (by omega) (by omega) l2 R1 (by omega)
            exact ⟨M', u1, u2, (CF1.tr l3).tr u3⟩
