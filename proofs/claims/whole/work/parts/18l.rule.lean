/-! reading a law: behind a fault nothing is read; a whole condition -/
theorem gFa_F {M : zM} {B : Nat → Nat} {q e p s n : Nat} {f x : Int32} (h : KC M B q e p s f) (hf : f ≠ 0) : gFa (n + 1) 38 x M = some ((), M) := by
  show f_X5_readFactor (g_X5 (n)).1 (g_X5 (n)).2.1 (g_X5 (n)).2.2.1 (g_X5 (n)).2.2.2.1 (g_X5 (n)).2.2.2.2.1 (g_X5 (n)).2.2.2.2.2 38 x M = _
  rw [f_X5_readFactor, h.t0, z_rd_eq, h.sgF hf, z_call_eq, if_neg (by decide), show f_X10_isDigit (-1) M = some (0, M) from rfl, z_call_eq, if_pos rfl, show f_X5_isLetter (-1) M = some (0, M) from rfl, z_call_eq, if_pos rfl, h.t0, z_rd_eq, z_rd_eq, h.flF hf, z_call_eq]
theorem gTe_F {M : zM} {B : Nat → Nat} {q e p s n : Nat} {f x : Int32} (h : KC M B q e p s f) (hf : f ≠ 0) : gTe (n + 2) 38 x M = some ((), M) := by
  rw [gTe_eq, gFa_F h hf, z_call_eq, show zF = 999 + 1 from rfl]
  exact tl7_F (y := 0) h hf
theorem gAm_F {M : zM} {B : Nat → Nat} {q e p s n : Nat} {f x : Int32} (h : KC M B q e p s f) (hf : f ≠ 0) : gAm (n + 3) 38 x M = some ((), M) := by
  rw [gAm_eq, gTe_F h hf, z_call_eq, show zF = 999 + 1 from rfl]
  exact al7_F (y := 0) h hf
theorem gTs_F {M : zM} {B : Nat → Nat} {q e p s n : Nat} {f x : Int32} (h : KC M B q e p s f) (hf : f ≠ 0) : gTs (n + 4) 38 x M = some ((), M) := by
  have h1 : (g_X5 (n + 3)).2.2.2.1 38 x M = some ((), M) := gAm_F h hf
  show f_X5_readTest (g_X5 (n + 3)).1 (g_X5 (n + 3)).2.1 (g_X5 (n + 3)).2.2.1 (g_X5 (n + 3)).2.2.2.1 (g_X5 (n + 3)).2.2.2.2.1 (g_X5 (n + 3)).2.2.2.2.2 38 x M = _
  rw [f_X5_readTest, h.t0, z_rd_eq, h.sgF hf, z_call_eq, if_neg (by decide), if_neg (by decide), h1, z_call_eq, h.t0, z_rd_eq, h.sgF hf, z_call_eq, if_neg (by decide), if_neg (by decide), if_neg (by decide), h.t0, z_rd_eq, z_rd_eq, h.flF hf, z_call_eq]
theorem gPa_F {M : zM} {B : Nat → Nat} {q e p s n : Nat} {f x : Int32} (h : KC M B q e p s f) (hf : f ≠ 0) : gPa (n + 5) 38 x M = some ((), M) := by
  rw [gPa_eq, gTs_F h hf, z_call_eq, show zF = 999 + 1 from rfl]
  exact pl7_F (y := 0) h hf
theorem gCn_F {M : zM} {B : Nat → Nat} {q e p s n : Nat} {f x : Int32} (h : KC M B q e p s f) (hf : f ≠ 0) : gCn (n + 6) 38 x M = some ((), M) := by
  rw [gCn_eq, gPa_F h hf, z_call_eq, show zF = 999 + 1 from rfl]
  exact cl7_F (y := 0) h hf
theorem KC.exF {M : zM} {B : Nat → Nat} {q e p s : Nat} {f x : Int32} (h : KC M B q e p s f) (hf : f ≠ 0) (hx : x ≠ -1) : f_X10_expect 1 x M = some ((), M) := c_expectF h.2.2.1 hf hx
theorem co_top {B : Nat → Nat} {e q : Nat} (hq : LO q) (he : e ≤ 240) (M : zM) (p s : Nat) (hK : KC M B q e p s 0) (hp : p ≤ e) (hs : s ≤ p) : ∃ M1 M2 M3 f p1 s1 f1 p2 f2 p' s', f_X10_expect 1 40 M = some ((), M1) ∧ KC M1 B q e p1 s f1 ∧ gCn 30 38 1 M1 = some ((), M2) ∧ KC M2 B q e p2 s1 f2 ∧ f_X10_expect 1 41 M2 = some ((), M3) ∧ KC M3 B q e p' s' f ∧ KF q s M M3 ∧ s ≤ s' ∧ s' ≤ 240 ∧ (f = 0 → p < p' ∧ p' ≤ e ∧ s' + p ≤ p' + s ∧ CXs (M3.1 (q + 1)) (M3.1 (q + 2)) s s') ∧ ∀ (W : zM) w o, KR W B e p s w o →
  (f ≠ 0 → ∃ W', f_X12_readsCondition 54 W = some (0, W') ∧ KX s 0 W W' ∧ W'.1 54 7 = f) ∧
  (f = 0 → ∃ W', f_X12_readsCondition 54 W = some (1, W') ∧ KR W' B e p' s' 0 0 ∧ KX s 0 W W' ∧ CDS M3 q s s' W') := by
  have e40 : f_X10_expect 1 40 M = some ((), if sg B e p = nI 40 then tpM M (p + 1) 0 else tpM M p (flt 1 p)) := k_expect (w := 40) hK he hp
  by_cases h40 : sg B e p = 40
  · have hpe : p < e := sg_cases 40 (by omega) h40
    rw [if_pos (show sg B e p = nI 40 from h40)] at e40
    have hK1 : KC (tpM M (p + 1) 0) B q e (p + 1) s 0 := hK.tp hq
    obtain ⟨M2, f2, p2, s2, i1, i2, i3, i4, i5, i6, i7⟩ := (co_all (B := B) hq he 5 1 30 (by omega) (by omega) (by omega)).1 (tpM M (p + 1) 0) (p + 1) s hK1 (by omega) (by omega)
    have kf : KF q s M M2 := (KF.tp hq).tr i3 (Nat.le_refl _)
    have hopen : ∀ (W : zM) w o, KR W B e p s w o → ∃ W8, f_X12_readsCondition 54 W = f_X12_readsCondition_40 54 zF W8 ∧ KR W8 B e (p + 1) s 1 1 ∧ KX s 0 W W8 ∧ tpo W8 1 13 := by
      intro W w o hR
      obtain ⟨W5, d5⟩ : ∃ W5 : zM, W5 = (zu W.1 54 9 (nI 0), W.2) := ⟨_, rfl⟩
      obtain ⟨W6, d6⟩ : ∃ W6 : zM, W6 = (zu W5.1 54 11 (nI 0), W5.2) := ⟨_, rfl⟩
      have x5 : KX s 0 W W5 := by rw [d5]; exact KX.r (by simp)
      have x6 : KX s 0 W W6 := x5.tr (by rw [d6]; exact KX.r (s := s) (w := 0) (by simp)) (Nat.le_refl _) (Nat.le_refl _)
      have e6 : ∀ i, i ≠ 11 → W6.1 54 i = W5.1 54 i := fun i hi => by rw [d6]; exact zpn hi
      have e5 : ∀ i, i ≠ 9 → W5.1 54 i = W.1 54 i := fun i hi => by rw [d5]; exact zpn hi
      have k6 : KR W6 B e p s 0 0 := hR.mk2 x6 (by rw [e6 5 (by decide), e5 5 (by decide)]; exact hR.2.2.1.1) (by rw [e6 10 (by decide), e5 10 (by decide)]; exact hR.2.2.2.1) (by rw [d6]; exact zps) (by rw [e6 9 (by decide), d5]; exact zps)
      obtain ⟨W8, o1, o2, o3, o4, o5⟩ := r_opens (j := 13) k6 (by omega) (by omega)
      have o1' : f_X12_opens 54 13 W6 = some (1, W8) := o1
      refine ⟨W8, ?_, o2, x6.tr o3 (Nat.le_refl _) (Nat.le_refl _), tpo.mk0 o4 (by omega)⟩
      rw [f_X12_readsCondition, hR.h he hp, z_call_eq, h40, if_pos rfl, zl_eq, zl_eq]
      show z_call (f_X12_opens 54 13 (zu (zu W.1 54 9 0) 54 11 0, W.2)) _ = _
      rw [show ((zu (zu W.1 54 9 0) 54 11 0, W.2) : zM) = W6 by rw [d6, d5]; rfl, o1', z_call_eq, if_neg (by decide)]
    by_cases hf : f2 = 0
    · subst hf
      obtain ⟨a1, a2, a3, a4, a5, a6⟩ := i6 rfl
      have e41 : f_X10_expect 1 41 M2 = some ((), if sg B e p2 = nI 41 then tpM M2 (p2 + 1) 0 else tpM M2 p2 (flt 1 p2)) := k_expect (w := 41) i2 he a2
      by_cases h41 : sg B e p2 = 41
      · have hp2 : p2 < e := sg_cases 41 (by omega) h41
        rw [if_pos (show sg B e p2 = nI 41 from h41)] at e41
        obtain ⟨t1, t2⟩ := tp_cell (M := M2) (p := p2 + 1) (f := 0) hq
        refine ⟨tpM M (p + 1) 0, M2, tpM M2 (p2 + 1) 0, 0, p + 1, s2, 0, p2, 0, p2 + 1, s2, e40, hK1, i1, i2, e41, i2.tp hq, kf.tr (KF.tp (s := s) hq) (Nat.le_refl _), i4, i5, fun _ => ⟨by omega, by omega, by omega, by rw [t1, t2]; exact a4⟩, ?_⟩
        intro W w o hR
        refine ⟨fun hz => absurd rfl hz, fun _ => ?_⟩
        obtain ⟨W8, o1, o2, o3, o4⟩ := hopen W w o hR
        obtain ⟨W', n1, n2, sR, wR, Wb, d, g1, g2, g3, g4, g5, g6, g7, g8, g9, g10⟩ := (i7 W8 1 zF o2 o4 (by omega) (by unfold zF; omega)).2 rfl
        obtain ⟨n2, rfl⟩ : ∃ z, n2 = z + 1 := ⟨n2 - 1, by unfold zF at g10; omega⟩
        obtain ⟨W4, c1, c2, c3, c4, c5⟩ := rc_close (n := n2) (w := 0) (o := 0) (k := f_X12_readsCondition_40 54 n1) g2 he a2 h41 (land_end g4 g5 g6 (by omega) (o4.to g7 (Nat.le_refl _)) (by omega) (by omega) (Or.inr (by omega))) g6 (by omega)
        refine ⟨W4, by rw [o1, g1, c1 rfl], c3, (o3.tr g7 (Nat.le_refl _) (by omega)).tr c4 (by omega) (Nat.le_refl _), ?_⟩
        exact (g8.w (fun k _ => by rw [c5])).m (fun k _ => by rw [t1, t2]; exact ⟨rfl, rfl⟩)
      · have hnz : flt 1 p2 ≠ 0 := flt_nz (by omega) (by omega) (by omega)
        rw [if_neg (show ¬ sg B e p2 = nI 41 from h41)] at e41
        refine ⟨tpM M (p + 1) 0, M2, tpM M2 p2 (flt 1 p2), flt 1 p2, p + 1, s2, 0, p2, 0, p2, s2, e40, hK1, i1, i2, e41, i2.tp hq, kf.tr (KF.tp (s := s) hq) (Nat.le_refl _), i4, i5, fun hz => absurd hz hnz, ?_⟩
        intro W w o hR
        refine ⟨fun _ => ?_, fun hz => absurd hz hnz⟩
        obtain ⟨W8, o1, o2, o3, o4⟩ := hopen W w o hR
        obtain ⟨W', n1, n2, sR, wR, Wb, d, g1, g2, g3, g4, g5, g6, g7, g8, g9, g10⟩ := (i7 W8 1 zF o2 o4 (by omega) (by unfold zF; omega)).2 rfl
        obtain ⟨n2, rfl⟩ : ∃ z, n2 = z + 1 := ⟨n2 - 1, by unfold zF at g10; omega⟩
        obtain ⟨W4, c1, c2, c3⟩ := rc_bad (s := s) (w := 0) (n := n2) (k := f_X12_readsCondition_40 54 n1) g2 he a2 h41 a5 a6
        exact ⟨W4, by rw [o1, g1, c1], (o3.tr g3 (Nat.le_refl _) (by omega)).tr c2 (Nat.le_refl _) (Nat.le_refl _), c3⟩
    · refine ⟨tpM M (p + 1) 0, M2, M2, f2, p + 1, s2, 0, p2, f2, p2, s2, e40, hK1, i1, i2, i2.exF hf (by decide), i2, kf, i4, i5, fun hz => absurd hz hf, ?_⟩
      intro W w o hR
      refine ⟨fun _ => ?_, fun hz => absurd hz hf⟩
      obtain ⟨W8, o1, o2, o3, o4⟩ := hopen W w o hR
      obtain ⟨W', g1, g2, g3⟩ := (i7 W8 1 zF o2 o4 (by omega) (by unfold zF; omega)).1 hf
      exact ⟨W', o1.trans g1, o3.tr g2 (Nat.le_refl _) (by omega), g3⟩
  · have hnz : flt 1 p ≠ 0 := flt_nz (by omega) (by omega) (by omega)
    rw [if_neg (show ¬ sg B e p = nI 40 from h40)] at e40
    have hK1 : KC (tpM M p (flt 1 p)) B q e p s (flt 1 p) := hK.tp hq
    refine ⟨_, _, _, flt 1 p, p, s, flt 1 p, p, flt 1 p, p, s, e40, hK1, gCn_F (n := 24) hK1 hnz, hK1, hK1.exF hnz (by decide), hK1, KF.tp hq, Nat.le_refl _, by omega, fun hz => absurd hz hnz, ?_⟩
    intro W w o hR
    refine ⟨fun _ => ?_, fun hz => absurd hz hnz⟩
    obtain ⟨W', i1, i2, i3⟩ := r_wrong (c := 1) hR
    refine ⟨W', ?_, KX.rf.tr i2 (Nat.le_refl _) (by omega), i3⟩
    rw [f_X12_readsCondition, hR.h he hp, z_call_eq, if_neg h40, show (1 : Int32) = nI 1 from rfl, i1, z_call_eq, if_pos (Or.inl rfl)]
/-- a rule is put down -/
def KG (q : Nat) (M M' : zM) : Prop := (∀ c, c ≠ 1 → (c < q ∨ q + 6 < c) → M'.1 c = M.1 c) ∧ (∀ j, j ≠ 3 → j ≠ 4 → M'.1 1 j = M.1 1 j) ∧ M'.2 = M.2
theorem KG.rf {q : Nat} {M : zM} : KG q M M := ⟨fun _ _ _ => rfl, fun _ _ _ => rfl, rfl⟩
theorem KG.tr {q : Nat} {M M1 M2 : zM} (h1 : KG q M M1) (h2 : KG q M1 M2) : KG q M M2 := ⟨fun c a b => (h2.1 c a b).trans (h1.1 c a b), fun j a b => (h2.2.1 j a b).trans (h1.2.1 j a b), h2.2.2.trans h1.2.2⟩
theorem KF.g {q s : Nat} {M M' : zM} (h : KF q s M M') : KG q M M' := ⟨fun c a b => h.1 c a (by omega) (by omega) (by omega), h.2.1, h.2.2.2.2⟩
theorem k_rule {M : zM} {B : Nat → Nat} {q e p s r : Nat} {f kd am te : Int32} (hq : LO q) (h : KC M B q e p s f) (h7 : M.1 q 7 = nI r) (hr : r < 16) : ∃ M', f_X4_addRule q kd am te M = some ((), M') ∧ KC M' B q e p s f ∧ KG q M M' ∧ M'.1 q 7 = nI (r + 1) ∧ M'.1 (q + 1) = M.1 (q + 1) ∧ M'.1 (q + 2) = M.1 (q + 2) ∧ M'.1 (q + 3) = va_up (M.1 (q + 3)) r kd ∧ M'.1 (q + 4) = va_up (M.1 (q + 4)) r am ∧ M'.1 (q + 5) = va_up (M.1 (q + 5)) r te ∧ M'.1 (q + 6) = va_up (M.1 (q + 6)) r (nI s) := by
  obtain ⟨l1, l2, l3, l4, l5, l6, l7⟩ := hq.lns
  obtain ⟨r1, r2, r3, r4, r5, r6, r7⟩ := hq.rs h.1
  obtain ⟨h1, h2, h3, h4, h5⟩ := h
  have hq2 : 20 < q ∧ q < 30 := by rcases hq with rfl | rfl <;> omega
  obtain ⟨I1, d1⟩ : ∃ I1, I1 = zu M.1 (q + 3) r kd := ⟨_, rfl⟩
  obtain ⟨I2, d2⟩ : ∃ I2, I2 = zu I1 (q + 4) r am := ⟨_, rfl⟩
  obtain ⟨I3, d3⟩ : ∃ I3, I3 = zu I2 (q + 5) r te := ⟨_, rfl⟩
  obtain ⟨I4, d4⟩ : ∃ I4, I4 = zu I3 (q + 6) r (nI s) := ⟨_, rfl⟩
  obtain ⟨I5, d5⟩ : ∃ I5, I5 = zu I4 q 7 (nI (r + 1)) := ⟨_, rfl⟩
  have c1 : ∀ c, c ≠ q + 3 → I1 c = M.1 c := fun c hc => by rw [d1]; exact zu_cell _ _ _ hc
  have c2 : ∀ c, c ≠ q + 4 → I2 c = I1 c := fun c hc => by rw [d2]; exact zu_cell _ _ _ hc
  have c3 : ∀ c, c ≠ q + 5 → I3 c = I2 c := fun c hc => by rw [d3]; exact zu_cell _ _ _ hc
  have c4 : ∀ c, c ≠ q + 6 → I4 c = I3 c := fun c hc => by rw [d4]; exact zu_cell _ _ _ hc
  have c5 : ∀ c, c ≠ q → I5 c = I4 c := fun c hc => by rw [d5]; exact zu_cell _ _ _ hc
  have all : ∀ c, c ≠ q → c ≠ q + 3 → c ≠ q + 4 → c ≠ q + 5 → c ≠ q + 6 → I5 c = M.1 c := fun c a b d e f => (c5 c a).trans ((c4 c f).trans ((c3 c e).trans ((c2 c d).trans (c1 c b))))
  have q4 : I4 q = M.1 q := (c4 q (by omega)).trans ((c3 q (by omega)).trans ((c2 q (by omega)).trans (c1 q (by omega))))
  have q3 : I3 q = M.1 q := (c3 q (by omega)).trans ((c2 q (by omega)).trans (c1 q (by omega)))
  have q2 : I2 q = M.1 q := (c2 q (by omega)).trans (c1 q (by omega))
  have q1 : I1 q = M.1 q := c1 q (by omega)
  refine ⟨(I5, M.2), ?_, ⟨h1.to rfl, h2.to (all 2 (by omega) (by omega) (by omega) (by omega) (by omega)) (all 58 (by omega) (by omega) (by omega) (by omega) (by omega)), ?_, ?_, h5⟩, ⟨fun c _ hc => all c (by omega) (by omega) (by omega) (by omega) (by omega), fun j _ _ => by show I5 1 j = _; rw [all 1 (by omega) (by omega) (by omega) (by omega) (by omega)], rfl⟩, ?_, all (q + 1) (by omega) (by omega) (by omega) (by omega) (by omega), all (q + 2) (by omega) (by omega) (by omega) (by omega) (by omega), ?_, ?_, ?_, ?_⟩
  · rw [f_X4_addRule, h7, if_neg (nI_pos (by omega)), r3, z_rd_eq, l3, if_neg (show ¬ Int32.ofNat 16 ≤ nI r from nI_ge (b := 16) hr (by omega)), z_rd_eq, l3, if_pos (by rw [z_ixN (by omega)]; omega), zl_eq, nI_clamp (by omega), ← d1]
    show z_rd (M.2.1 q 3) _ = _
    rw [r4, z_rd_eq, l4]
    show (if z_ix (I1 q 7) 16 = true then zl (zu I1 (q + 4) (I1 q 7).toNatClampNeg am, M.2) _ else none) = _
    rw [q1, h7, if_pos (by rw [z_ixN (by omega)]; omega), nI_clamp (by omega), ← d2, zl_eq]
    show z_rd (M.2.1 q 4) _ = _
    rw [r5, z_rd_eq, l5]
    show (if z_ix (I2 q 7) 16 = true then zl (zu I2 (q + 5) (I2 q 7).toNatClampNeg te, M.2) _ else none) = _
    rw [q2, h7, if_pos (by rw [z_ixN (by omega)]; omega), nI_clamp (by omega), ← d3, zl_eq]
    show z_rd (M.2.1 q 5) _ = _
    rw [r6, z_rd_eq, l6]
    show (if z_ix (I3 q 7) 16 = true then zl (zu I3 (q + 6) (I3 q 7).toNatClampNeg (I3 q 6), M.2) _ else none) = _
    rw [q3, h7, h4, if_pos (by rw [z_ixN (by omega)]; omega), nI_clamp (by omega), ← d4, zl_eq]
    show zl (zu I4 q 7 (I4 q 7 + 1), M.2) _ = _
    rw [q4, h7, nI_1, ← d5, zl_eq]
  · unfold CR
    show I5 1 2 = _ ∧ I5 1 3 = _ ∧ I5 1 4 = _
    rw [all 1 (by omega) (by omega) (by omega) (by omega) (by omega)]
    exact h3
  · show I5 q 6 = _
    rw [d5, zu_ne _ _ _ (by decide), q4]; exact h4
  · show I5 q 7 = _
    rw [d5, zu_same]
  · show I5 (q + 3) = _
    rw [c5 _ (by omega), c4 _ (by omega), c3 _ (by omega), c2 _ (by omega), d1, zu_self]
  · show I5 (q + 4) = _
    rw [c5 _ (by omega), c4 _ (by omega), c3 _ (by omega), d2, zu_self, c1 _ (by omega)]
  · show I5 (q + 5) = _
    rw [c5 _ (by omega), c4 _ (by omega), d3, zu_self, c2 _ (by omega), c1 _ (by omega)]
  · show I5 (q + 6) = _
    rw [c5 _ (by omega), d4, zu_self, c3 _ (by omega), c2 _ (by omega), c1 _ (by omega)]
