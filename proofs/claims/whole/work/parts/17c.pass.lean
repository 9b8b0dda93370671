/-! hours in the class: rooms and hours -/
theorem c_sendUp {M : zM} {q o nr r : Nat} {L : Nat → Nat → Int32} {G : (Nat → Nat) × Nat × Nat × Nat} (hq : LO q) (hO : SO o) (hr : r < 24) (hA : CA M q o L nr G) (hR : NR G.1) : ∃ M', f_X0_sendUp 37 (nI r) M = some ((), M') ∧ CA M' q o L nr (gSe L nr r G) ∧ CF q o M M' := by
  obtain ⟨l1, l2, l3, l4, l5⟩ := hO.lns
  obtain ⟨r1, r2, r3, r4, r5⟩ := hO.rs hA.1
  have hh := hR.2.2.2.2.2.2.2.1
  have hs := hR.2.1 r hr
  obtain ⟨h1, h2, h3, h4, h5, h6, h7, h8⟩ := id hA
  rw [f_X0_sendUp, h2, z_rd_eq, c_takesPart h5 hR hr, z_call_eq]
  unfold gSe
  by_cases ht : tk G.1 r = true
  · rw [if_pos ht, if_neg (by decide), if_neg (by rw [ht]; decide), h2, z_rd_eq, r1, z_rd_eq, l1, if_pos (by rw [z_ixN (by omega)]; omega), nI_clamp (by omega), h5.1 r hr]
    by_cases h0 : G.1 (24 + r) = 0
    · rw [if_pos h0, if_pos (by rw [h0]; rfl)]; exact ⟨M, rfl, hA, CF.rf⟩
    · rw [if_neg h0, if_neg (nI_nz h0 (by omega)), h3, z_rd_eq, z_rd_eq]
      obtain ⟨M1, i1, i2, i3, i4⟩ := hA.lk (r := r) (p := r) (m := 0) hq hO
      obtain ⟨M2, j1, j2⟩ := c_isFog hq hO hr hr hh i2.1 i2.2.2.2.1 i4
      obtain ⟨j3, j4⟩ := i2.fq hq hO j2
      rw [show (0 : Int32) = nI 0 from rfl, i1, z_call_eq, i2.2.2.1, z_rd_eq, j1, z_call_eq]
      by_cases hf : fgL L (fcs G.1 r r 0) nr 0 = true
      · rw [if_pos hf, if_neg (by decide), if_pos hf]
        exact ⟨M2, rfl, j3, i3.tr j4⟩
      · obtain ⟨M3, k1, k2⟩ := c_amountOf (kd := 99) (hi := 99) hq hO hr hr hh (by decide) (by decide) j3.1 j3.2.2.2.1 (i4.to hq hO j2)
        obtain ⟨k3, k4⟩ := j3.fq hq hO k2
        obtain ⟨s1, s2, s3, s4, s5⟩ := hO.rs k3.1
        obtain ⟨a, ha, hby⟩ := byL_b (L := L) (fc := fcs G.1 r r 0) (kd := 99) (h := 99) (by omega) nr 0
        have hby' : byL L (fcs G.1 r r 0) 99 99 nr 0 = nI a := hby
        have hmu : gMu L nr G.1 r = min (G.1 (24 + r)) a := by
          unfold gMu
          rw [hby', tn_nI (by omega)]
        have c3 : M3.1 (o + 1) r = nI (G.1 (24 + r)) := k3.2.2.2.2.1.1 r hr
        rw [if_neg hf, if_pos (by decide), if_neg hf, hmu, j3.2.2.1, z_rd_eq, k1, z_call_eq, hby', k3.2.1, z_rd_eq, s1, z_rd_eq, l1, if_pos (by rw [z_ixN (by omega)]; omega), zl_eq, c3, nI_min (by omega) (by omega), Nat.min_comm a]
        by_cases hm : min (G.1 (24 + r)) a = 0
        · rw [if_pos hm, if_pos (by rw [hm]; decide)]
          exact ⟨M3, rfl, k3, (i3.tr j4).tr k4⟩
        · rw [if_neg hm, if_neg (show ¬ nI (min (G.1 (24 + r)) a) ≤ nI 0 from nI_nle (by omega) (by omega)), z_rd_eq, s1, z_rd_eq, l1, if_pos (by rw [z_ixN (by omega)]; omega), if_pos (by rw [z_ixN (by omega)]; omega), zl_eq, c3, nI_sub (by omega)]
          obtain ⟨m1, m2⟩ := k3.sh hq hO (M' := (zu M3.1 (o + 1) r (nI (G.1 (24 + r) - min (G.1 (24 + r)) a)), M3.2)) (Fr.zu (by simp [shc])) (k3.2.2.2.2.1.sin hr)
          have R1 : NR (va_up G.1 (24 + r) (G.1 (24 + r) - min (G.1 (24 + r)) a)) := hR.sin hr (by omega)
          have hab : abv (va_up G.1 (24 + r) (G.1 (24 + r) - min (G.1 (24 + r)) a)) r = abv G.1 r := by unfold abv; rw [va_ne (by omega)]
          have hle := abv_le (N := G.1) r
          have hfl : 1 ≤ abv G.1 r / 4 := by
            by_cases h20 : r < 20
            · have := abv_lt (N := G.1) h20; omega
            · rw [abv_hi (by omega)]; omega
          obtain ⟨M4, u1, u2, u3⟩ := c_ris_lp hq hO hr 6 zF (va_up G.1 (24 + r) (G.1 (24 + r) - min (G.1 (24 + r)) a), G.2) (min (G.1 (24 + r)) a) (abv G.1 r) 0 _ hle (by omega) (by omega) (by unfold zF; omega) m1 R1 (by omega)
          refine ⟨M4, ?_, u2, ((i3.tr j4).tr k4).tr (m2.tr u3)⟩
          rw [f_X0_rise, m1.2.1, z_rd_eq, c_above hO m1.1 m1.2.2.2.2.1 R1 hr, z_call_eq]
          show z_call (f_X0_rise_15 37 (nI r) zF (nI (min (G.1 (24 + r)) a)) (nI (abv (va_up G.1 (24 + r) (G.1 (24 + r) - min (G.1 (24 + r)) a)) r)) 0 (zu M3.1 (o + 1) r (nI (G.1 (24 + r) - min (G.1 (24 + r)) a)), M3.2)) _ = _
          rw [hab, show (0 : Int32) = nI 0 from rfl, u1, z_call_eq]
  · rw [if_neg ht, if_pos rfl, if_pos (by simpa using ht)]
    exact ⟨M, rfl, hA, CF.rf⟩
theorem c_49_lp {q o nr : Nat} {L : Nat → Nat → Int32} {k : Int32 → zM → Option (Unit × zM)} {x3 x4 : Int32} (hq : LO q) (hO : SO o) : ∀ m n r G (M : zM), r + m = 24 → m < n → CA M q o L nr G → NR G.1 → ∃ M', f_X0_pass_49 37 x3 k n x4 (nI r) M = k (x4 + 1) M' ∧ CA M' q o L nr (va_up (gRo L nr m r G).1 697 ((gRo L nr m r G).1 697 + 1), (gRo L nr m r G).2) ∧ CF q o M M' := by
  intro m
  induction m with
  | zero =>
    intro n r G M hr hn hA hR
    obtain ⟨n, rfl⟩ : ∃ z, n = z + 1 := ⟨n - 1, by omega⟩
    obtain rfl : r = 24 := by omega
    obtain ⟨h1, h2, h3, h4, h5, h6, h7, h8⟩ := id hA
    obtain ⟨m1, m2⟩ := hA.sh hq hO (M' := (zu M.1 o 8 (nI (G.1 697 + 1)), M.2)) (Fr.zu (by simp [shc])) h5.hou
    refine ⟨_, ?_, m1, m2⟩
    rw [f_X0_pass_49, if_pos (by decide), h2, z_rd_eq, zl_eq, zl_eq, h5.2.2.2.2.2.2.2.2.1, nI_1]
  | succ m ih =>
    intro n r G M hr hn hA hR
    obtain ⟨n, rfl⟩ : ∃ z, n = z + 1 := ⟨n - 1, by omega⟩
    obtain ⟨M1, i1, i2, i3⟩ := c_sendUp hq hO (show r < 24 by omega) hA hR
    obtain ⟨M', j1, j2, j3⟩ := ih n (r + 1) _ M1 (by omega) (by omega) i2 (gSe_R (by omega) hR).1
    refine ⟨M', ?_, j2, i3.tr j3⟩
    rw [f_X0_pass_49, if_neg (show ¬ (24 : Int32) ≤ nI r from nI_ge (b := 24) (by omega) (by omega)), i1, z_call_eq, zl_eq, nI_1]
    exact j1
theorem c_28_lp {q o nr nn : Nat} {L : Nat → Nat → Int32} (hq : LO q) (hO : SO o) (hnn : nn ≤ 240) : ∀ m n i G (M : zM), i + m = nn → m < n → CA M q o L nr G → NR G.1 → ∃ M', f_X0_pass_28 37 (nI nn) n (nI i) M = some ((), M') ∧ CA M' q o L nr (gHs L nr m G) ∧ CF q o M M' := by
  intro m
  induction m with
  | zero =>
    intro n i G M hr hn hA hR
    obtain ⟨n, rfl⟩ : ∃ z, n = z + 1 := ⟨n - 1, by omega⟩
    obtain rfl : i = nn := by omega
    exact ⟨M, by rw [f_X0_pass_28, if_pos (nI_le (Nat.le_refl _) (by omega))], hA, CF.rf⟩
  | succ m ih =>
    intro n i G M hr hn hA hR
    obtain ⟨n, rfl⟩ : ∃ z, n = z + 1 := ⟨n - 1, by omega⟩
    have hh := hR.2.2.2.2.2.2.2.1
    rw [f_X0_pass_28, if_neg (nI_ge (by omega) (by omega)), hA.2.1, z_rd_eq, hA.2.2.2.2.1.2.2.2.2.2.2.2.2.1, gHs]
    by_cases h : 99999 ≤ G.1 697
    · rw [if_pos h, if_pos (show (99999 : Int32) ≤ nI (G.1 697) from nI_le (a := 99999) h (by omega))]
      exact ⟨M, rfl, hA, CF.rf⟩
    · rw [if_neg h, if_neg (show ¬ (99999 : Int32) ≤ nI (G.1 697) from nI_ge (b := 99999) (by omega) (by omega))]
      obtain ⟨M1, i1, i2, i3⟩ := c_49_lp (k := f_X0_pass_28 37 (nI nn) n) (x3 := nI nn) (x4 := nI i) hq hO 24 zF 0 G M (by omega) (by unfold zF; omega) hA hR
      obtain ⟨M', j1, j2, j3⟩ := ih n (i + 1) _ M1 (by omega) (by omega) i2 (gHo_R hR (by omega))
      refine ⟨M', ?_, j2, i3.tr j3⟩
      rw [show (0 : Int32) = nI 0 from rfl, i1, nI_1]
      exact j1
theorem c_pass {M : zM} {q o nr nn : Nat} {L : Nat → Nat → Int32} {N : Nat → Nat} (hq : LO q) (hO : SO o) (hnn : nn ≤ 240) (hS : ST M) (hQ : LQ M q L nr) (hC : CS M o N) (hR : NR N) : ∃ M', f_X0_pass 37 o q (nI nn) M = some ((), M') ∧ CA M' q o L nr (gHs L nr nn (N, 0, 0, 0)) ∧ CF q o M M' := by
  have hqo := qo_lt hq hO
  obtain ⟨M1, d1⟩ : ∃ M1 : zM, M1 = (M.1, zu M.2.1 37 0 (some o), M.2.2) := ⟨_, rfl⟩
  obtain ⟨M2, d2⟩ : ∃ M2 : zM, M2 = (M1.1, zu M1.2.1 37 1 (some q), M1.2.2) := ⟨_, rfl⟩
  obtain ⟨M3, d3⟩ : ∃ M3 : zM, M3 = (zu (zu (zu M2.1 37 2 0) 37 3 0) 37 4 0, M2.2) := ⟨_, rfl⟩
  have x1 : FX (CFl q o) M M1 := by rw [d1]; exact FX.ref rfl
  have x2 : FX (CFl q o) M M2 := x1.tr (by rw [d2]; exact FX.ref rfl)
  have fr : Fr [37] M2 M3 := by
    rw [d3]
    exact ((Fr.zu (by simp)).tr (Fr.zu (M := (zu M2.1 37 2 0, M2.2)) (by simp))).tr (Fr.zu (M := (zu (zu M2.1 37 2 0) 37 3 0, M2.2)) (by simp))
  have x3 : FX (CFl q o) M M3 := x2.tr (fr.mono (by intro c hc; unfold CFl; simp at hc ⊢; omega)).X
  have e2 : M2.1 = M.1 := by rw [d2, d1]
  have e : ∀ c, c ≠ 37 → M3.1 c = M.1 c := fun c hc => (fr.c (by simpa using hc)).trans (by rw [e2])
  have hA : CA M3 q o L nr (N, 0, 0, 0) := by
    refine ⟨x3.st hS, ?_, ?_, ?_, hC.to (fun c a b => e c (by omega)), ?_, ?_, ?_⟩
    · rw [fr.2, d2, d1]
      show zu (zu M.2.1 37 0 (some o)) 37 1 (some q) 37 0 = _
      rw [zu_ne _ _ _ (by decide), zu_same]
    · rw [fr.2, d2, d1]
      show zu (zu M.2.1 37 0 (some o)) 37 1 (some q) 37 1 = _
      rw [zu_same]
    · obtain ⟨nc, k1, k2, k3, k4, k5⟩ := hQ
      refine ⟨nc, k1, k2, by rw [e q (by omega)]; exact k3, by rw [e q (by omega)]; exact k4, ?_⟩
      rw [e (q + 1) (by omega), e (q + 2) (by omega), e (q + 3) (by omega), e (q + 4) (by omega), e (q + 5) (by omega), e (q + 6) (by omega)]
      exact k5
    · rw [d3]; show zu (zu (zu M2.1 37 2 0) 37 3 0) 37 4 0 37 2 = _; rw [zu_ne _ _ _ (by decide), zu_ne _ _ _ (by decide), zu_same]; rfl
    · rw [d3]; show zu (zu (zu M2.1 37 2 0) 37 3 0) 37 4 0 37 3 = _; rw [zu_ne _ _ _ (by decide), zu_same]; rfl
    · rw [d3]; show zu (zu (zu M2.1 37 2 0) 37 3 0) 37 4 0 37 4 = _; rw [zu_same]; rfl
  obtain ⟨M', i1, i2, i3⟩ := c_28_lp hq hO hnn nn zF 0 _ M3 (by omega) (by unfold zF; omega) hA hR
  refine ⟨M', ?_, i2, CF.tr ⟨x3, fun j hj => by rw [e q (by omega)]⟩ i3⟩
  rw [f_X0_pass, zl_eq, zl_eq, zl_eq, zl_eq, zl_eq, ← i1, d3, d2, d1]
  rfl
