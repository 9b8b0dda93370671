/-! reading a law: tests -/
def TsL (B : Nat → Nat) (e q o : Nat) (cls : Nat → Int32 → zM → Option (Unit × zM)) : Prop := ∀ (M : zM) p s, KC M B q e p s 0 → p ≤ e → s ≤ p → ∃ M' f p' s', cls 38 (nI o) M = some ((), M') ∧ KC M' B q e p' s' f ∧ KF q s M M' ∧ s ≤ s' ∧ s' ≤ 240 ∧ (f = 0 → p < p' ∧ p' ≤ e ∧ s' + p ≤ p' + s ∧ CXs (M'.1 (q + 1)) (M'.1 (q + 2)) s s') ∧ ∀ (W : zM) w n, KR W B e p s w o → NS W w → 1 ≤ w → w ≤ 3 * o → e - p < n →
  (f ≠ 0 → ∃ W', f_X12_readsCondition_40 54 n W = some (0, W') ∧ KX s w W W' ∧ W'.1 54 7 = f) ∧
  (f = 0 → ∃ W' k n1 n2, f_X12_readsCondition_40 54 n W = Ex k n1 n2 W' ∧ KR W' B e p' s' w o ∧ KX s w W W' ∧ CDS M' q s s' W' ∧ n ≤ n1 + (p' - p) ∧ zF ≤ n2 + p' ∧ zF ≤ k + (p' - p))
/-- behind a condition: jumps may wait; landed, it stands at Wa -/
def CoL (B : Nat → Nat) (e q o : Nat) (cls : Nat → Int32 → zM → Option (Unit × zM)) : Prop := ∀ (M : zM) p s, KC M B q e p s 0 → p ≤ e → s ≤ p → ∃ M' f p' s', cls 38 (nI o) M = some ((), M') ∧ KC M' B q e p' s' f ∧ KF q s M M' ∧ s ≤ s' ∧ s' ≤ 240 ∧ (f = 0 → p < p' ∧ p' ≤ e ∧ s' + p ≤ p' + s ∧ CXs (M'.1 (q + 1)) (M'.1 (q + 2)) s s' ∧ sg B e p' ≠ 38 ∧ sg B e p' ≠ 124) ∧ ∀ (W : zM) w n, KR W B e p s w o → tpo W w 13 → w + 2 ≤ 3 * o → e - p < n →
  (f ≠ 0 → ∃ W', f_X12_readsCondition_40 54 n W = some (0, W') ∧ KX s w W W' ∧ W'.1 54 7 = f) ∧
  (f = 0 → ∃ W' n1 n2 sR wR Wb d, f_X12_readsCondition_40 54 n W = f_X12_readsCondition_92 54 (f_X12_readsCondition_40 54 n1) n2 W' ∧ KR W' B e p' sR wR o ∧ KX s w W W' ∧ d ≤ 2 ∧ (∀ k, f_X12_lands_0 54 1 (k + d) W' = f_X12_lands_0 54 1 k Wb) ∧ KR Wb B e p' s' w o ∧ KX s w W Wb ∧ CDS M' q s s' Wb ∧ n ≤ n1 + (p' - p) ∧ zF ≤ n2 + p')
theorem cmps (x : Int32) : (∃ i, i < 3 ∧ x = cms i) ∨ (x ≠ 60 ∧ x ≠ 62 ∧ x ≠ 61) := by
  by_cases h1 : x = 60
  · exact Or.inl ⟨0, by omega, h1⟩
  by_cases h2 : x = 62
  · exact Or.inl ⟨1, by omega, h2⟩
  by_cases h3 : x = 61
  · exact Or.inl ⟨2, by omega, h3⟩
  exact Or.inr ⟨h1, h2, h3⟩
theorem cms_lt {B : Nat → Nat} {e p i : Nat} (hi : i < 3) (h : sg B e p = cms i) : p < e := by
  rcases (show i = 0 ∨ i = 1 ∨ i = 2 by omega) with rfl | rfl | rfl
  · exact sg_cases 60 (by omega) h
  · exact sg_cases 62 (by omega) h
  · exact sg_cases 61 (by omega) h
/-- the reference compares -/
theorem rc_cmp {W W1 : zM} {B : Nat → Nat} {e p p1 s s1 w o i : Nat} (hS : f_X12_readsSum 54 W = some (1, W1)) (h : KR W1 B e p1 s1 w o) (he : e ≤ 240) (hp : p1 ≤ e) (hi : i < 3) (hs : sg B e p1 = cms i) : ∃ W2, f_X12_readsCompared 54 W = (z_call (f_X12_readsSum 54 W2) fun v_3 M_4 => (if v_3 = 0 then some (0, M_4) else z_call (f_X12_notes 54 (nI (7 + i)) 0 M_4) fun _ M_8 => z_call (f_X12_endsPiece 54 M_8) fun _ M_11 => some (1, M_11))) ∧ KR W2 B e (p1 + 1) s1 w o ∧ KX s1 w W1 W2 ∧ W2.1 59 = W1.1 59 := by
  have x2 : KX s1 w W1 (zu W1.1 54 5 (nI (p1 + 1)), W1.2) := KX.r (by simp)
  refine ⟨(zu W1.1 54 5 (nI (p1 + 1)), W1.2), ?_, h.mk2 x2 zps ((zpn (by decide)).trans h.2.2.2.1) ((zpn (by decide)).trans h.2.2.2.2.1) ((zpn (by decide)).trans h.2.2.2.2.2), x2, zpc (by decide)⟩
  rcases (show i = 0 ∨ i = 1 ∨ i = 2 by omega) with rfl | rfl | rfl
  · have hs' : sg B e p1 = 60 := hs
    rw [f_X12_readsCompared, hS, z_call_eq, if_neg (by decide), h.h he hp, z_call_eq, hs', if_pos rfl, f_X12_readsCompared_52, if_neg (by decide), h.2.2.1.1, nI_1, zl_eq]
    rfl
  · have hs' : sg B e p1 = 62 := hs
    rw [f_X12_readsCompared, hS, z_call_eq, if_neg (by decide), h.h he hp, z_call_eq, hs', if_neg (by decide), h.h he hp, z_call_eq, hs', if_pos rfl, f_X12_readsCompared_52, if_neg (by decide), h.2.2.1.1, nI_1, zl_eq]
    rfl
  · have hs' : sg B e p1 = 61 := hs
    rw [f_X12_readsCompared, hS, z_call_eq, if_neg (by decide), h.h he hp, z_call_eq, hs', if_neg (by decide), h.h he hp, z_call_eq, hs', if_neg (by decide), h.h he hp, z_call_eq, hs', if_pos rfl, f_X12_readsCompared_52, if_neg (by decide), h.2.2.1.1, nI_1, zl_eq]
    rfl
theorem rc_cmpF {W W1 : zM} {B : Nat → Nat} {e p1 s1 w o : Nat} (hS : f_X12_readsSum 54 W = some (1, W1)) (h : KR W1 B e p1 s1 w o) (he : e ≤ 240) (hp : p1 ≤ e) (h1 : sg B e p1 ≠ 60) (h2 : sg B e p1 ≠ 62) (h3 : sg B e p1 ≠ 61) : ∃ W2, f_X12_readsCompared 54 W = some (0, W2) ∧ KX s1 w W1 W2 ∧ W2.1 54 7 = flt 1 p1 := by
  obtain ⟨W', i1, i2, i3⟩ := r_wrong (c := 1) h
  refine ⟨W', ?_, i2, i3⟩
  rw [f_X12_readsCompared, hS, z_call_eq, if_neg (by decide), h.h he hp, z_call_eq, if_neg h1, h.h he hp, z_call_eq, if_neg h2, h.h he hp, z_call_eq, if_neg h3, f_X12_readsCompared_52, if_pos rfl, show (1 : Int32) = nI 1 from rfl, i1, z_call_eq, if_pos (Or.inl rfl)]
theorem ts_cmp {W : zM} {B : Nat → Nat} {e p s w o n : Nat} (h : KR W B e p s w o) (he : e ≤ 240) (hp : p ≤ e) (h1 : sg B e p ≠ 33) (h2 : sg B e p ≠ 40) : f_X12_readsCondition_40 54 (n + 1) W = z_call (f_X12_readsCompared 54 W) fun v_9 M_10 => (if v_9 = 0 then some (0, M_10) else (f_X12_readsCondition_92 54 (f_X12_readsCondition_40 54 n) zF M_10)) := by
  rw [f_X12_readsCondition_40, h.h he hp, z_call_eq, if_neg h1, h.h he hp, z_call_eq, if_neg h2]
theorem ts_of {B : Nat → Nat} {e q o nd : Nat} (hq : LO q) (he : e ≤ 240) (ho : o ≤ 6) (ho1 : 1 ≤ o) (hts : o < 6 → TsL B e q (o + 1) (gTs nd)) (hco : o < 6 → CoL B e q (o + 1) (gCn nd)) (ham : AmL B e q o (gAm nd)) : TsL B e q o (gTs (nd + 1)) := by
  intro M p s hK hp hs
  have hd0 : gTs (nd + 1) 38 (nI o) M = f_X5_readTest (g_X5 nd).1 (g_X5 nd).2.1 (g_X5 nd).2.2.1 (g_X5 nd).2.2.2.1 (g_X5 nd).2.2.2.2.1 (g_X5 nd).2.2.2.2.2 38 (nI o) M := rfl
  rw [hd0, f_X5_readTest, hK.t0, z_rd_eq, hK.sg he hp, z_call_eq]
  have deep : ∀ i, i ≤ 1 → sg B e p = (if i = 0 then 33 else 40) → ¬ o < 6 → ∀ (W : zM) w n, KR W B e p s w o → NS W w → 1 ≤ w → w ≤ 3 * o → e - p < n → (flt 5 p ≠ 0 → ∃ W', f_X12_readsCondition_40 54 n W = some (0, W') ∧ KX s w W W' ∧ W'.1 54 7 = flt 5 p) := by
    intro i hi hsg h6 W w n hR hN hw1 hw hn _
    obtain rfl : o = 6 := by omega
    obtain ⟨n, rfl⟩ : ∃ z, n = z + 1 := ⟨n - 1, by omega⟩
    exact ts_open6 hR he hp hi hsg
  by_cases h33 : sg B e p = 33
  · have hpe : p < e := sg_cases 33 (by omega) h33
    rw [if_pos h33, k_opens hK ho]
    by_cases h6 : o < 6
    · have hK1 : KC (tpM M (p + 1) 0) B q e (p + 1) s 0 := hK.tp hq
      obtain ⟨M2, f2, p2, s2, i1, i2, i3, i4, i5, i6, i7⟩ := hts h6 (tpM M (p + 1) 0) (p + 1) s hK1 (by omega) (by omega)
      have i1' : (g_X5 nd).2.2.1 38 (nI (o + 1)) (tpM M (p + 1) 0) = some ((), M2) := i1
      have kf : KF q s M M2 := (KF.tp hq).tr i3 (Nat.le_refl _)
      rw [if_pos h6, z_call_eq, if_neg (by decide), nI_1, i1', z_call_eq, i2.t1, z_rd_eq]
      by_cases hf : f2 = 0
      · subst hf
        obtain ⟨a1, a2, a3, a4⟩ := i6 rfl
        obtain ⟨M3, b1, b2, b3, b4, b5⟩ := k_add (x := 33) (v := 0) hq i2 (by omega)
        rw [b1, z_call_eq]
        refine ⟨M3, 0, p2, s2 + 1, rfl, b2, kf.tr b3 i4, by omega, by omega, fun _ => ⟨by omega, a2, by omega, ?_⟩, ?_⟩
        · exact (a4.cg (fun k _ hk => (b3.2.2.2.1 k hk).1) (fun k _ hk => (b3.2.2.2.1 k hk).2)).not b4
        · intro W w n hR hN hw1 hw hn
          refine ⟨fun hz => absurd rfl hz, fun _ => ?_⟩
          obtain ⟨n, rfl⟩ : ∃ z, n = z + 1 := ⟨n - 1, by omega⟩
          obtain ⟨W1, c1, c2, c3, c4⟩ := ts_open (n := n) (i := 0) hR he hp (by omega) h6 (by omega) h33
          have c4' : W1.1 60 w = nI (1048576 * 10) := c4
          obtain ⟨W', k, n1, n2, g1, g2, g3, g4, g5, g6, g7⟩ := (i7 W1 (w + 1) n c2 (Or.inr ⟨10, tpo.mk0 c4' (by omega), by omega, by omega⟩) (by omega) (by omega) (by omega)).2 rfl
          have htp : tpo W' (w + 1) 10 := (tpo.mk0 c4' (by omega)).to g3 (Nat.le_refl _)
          obtain ⟨W4, e1, e2, e3, e4⟩ := r_ep1 g2 (by omega) (by omega) htp
          obtain ⟨k, rfl⟩ : ∃ z, k = z + 1 := ⟨k - 1, by unfold zF at g7; omega⟩
          refine ⟨W4, k, n1, n2, ?_, e2, (c3.tr g3 (Nat.le_refl _) (by omega)).tr e3 (by omega) (Nat.le_refl _), ?_, by omega, by omega, by unfold zF at g7 ⊢; omega⟩
          · rw [c1, g1]
            unfold Ex
            rw [e1]
          · refine CDS.ap (s1 := s2) ((g4.w (fun k hk => e3.2.2.1 k hk)).m (fun k hk => b3.2.2.2.1 k hk)) (CDS.one ?_)
            rw [e4, b4, enc_not]
      · obtain ⟨M3, s3, b1, b2, b3, b4, b5⟩ := k_addA (x := 33) (v := 0) hq i2 i5
        rw [b1, z_call_eq]
        refine ⟨M3, f2, p2, s3, rfl, b2, kf.tr b3 i4, by omega, b5, fun hz => absurd hz hf, ?_⟩
        intro W w n hR hN hw1 hw hn
        refine ⟨fun _ => ?_, fun hz => absurd hz hf⟩
        obtain ⟨n, rfl⟩ : ∃ z, n = z + 1 := ⟨n - 1, by omega⟩
        obtain ⟨W1, c1, c2, c3, c4⟩ := ts_open (n := n) (i := 0) hR he hp (by omega) h6 (by omega) h33
        have c4' : W1.1 60 w = nI (1048576 * 10) := c4
        obtain ⟨W', g1, g2, g3⟩ := (i7 W1 (w + 1) n c2 (Or.inr ⟨10, tpo.mk0 c4' (by omega), by omega, by omega⟩) (by omega) (by omega) (by omega)).1 hf
        exact ⟨W', c1.trans g1, c3.tr g2 (Nat.le_refl _) (by omega), g3⟩
    · have hnz : flt 5 p ≠ 0 := flt_nz (by omega) (by omega) (by omega)
      rw [if_neg h6, z_call_eq, if_pos rfl]
      refine ⟨tpM M p (flt 5 p), flt 5 p, p, s, rfl, hK.tp hq, KF.tp hq, Nat.le_refl _, by omega, fun hz => absurd hz hnz, ?_⟩
      intro W w n hR hN hw1 hw hn
      exact ⟨deep 0 (by omega) h33 h6 W w n hR hN hw1 hw hn, fun hz => absurd hz hnz⟩
  rw [if_neg h33]
  by_cases h40 : sg B e p = 40
  · have hpe : p < e := sg_cases 40 (by omega) h40
    rw [if_pos h40, k_opens hK ho]
    by_cases h6 : o < 6
    · have hK1 : KC (tpM M (p + 1) 0) B q e (p + 1) s 0 := hK.tp hq
      obtain ⟨M2, f2, p2, s2, i1, i2, i3, i4, i5, i6, i7⟩ := hco h6 (tpM M (p + 1) 0) (p + 1) s hK1 (by omega) (by omega)
      have i1' : (g_X5 nd).1 38 (nI (o + 1)) (tpM M (p + 1) 0) = some ((), M2) := i1
      have kf : KF q s M M2 := (KF.tp hq).tr i3 (Nat.le_refl _)
      rw [if_pos h6, z_call_eq, if_neg (by decide), nI_1, i1', z_call_eq, i2.t0, z_rd_eq]
      by_cases hf : f2 = 0
      · subst hf
        obtain ⟨a1, a2, a3, a4, a5, a6⟩ := i6 rfl
        rw [show (41 : Int32) = nI 41 from rfl, k_expect i2 he a2, z_call_eq]
        by_cases h41 : sg B e p2 = 41
        · have hp2 : p2 < e := sg_cases 41 (by omega) h41
          rw [if_pos (show sg B e p2 = nI 41 from h41)]
          refine ⟨tpM M2 (p2 + 1) 0, 0, p2 + 1, s2, rfl, i2.tp hq, kf.tr (KF.tp (s := s) hq) (Nat.le_refl _), i4, i5, fun _ => ⟨by omega, by omega, by omega, ?_⟩, ?_⟩
          · obtain ⟨t1, t2⟩ := tp_cell (M := M2) (p := p2 + 1) (f := 0) hq
            rw [t1, t2]; exact a4
          · intro W w n hR hN hw1 hw hn
            refine ⟨fun hz => absurd rfl hz, fun _ => ?_⟩
            obtain ⟨n, rfl⟩ : ∃ z, n = z + 1 := ⟨n - 1, by omega⟩
            obtain ⟨W1, c1, c2, c3, c4⟩ := ts_open (n := n) (i := 1) hR he hp (by omega) h6 (by omega) h40
            have c4' : W1.1 60 w = nI (1048576 * 13) := c4
            have ht1 : tpo W1 (w + 1) 13 := tpo.mk0 c4' (by omega)
            obtain ⟨W', n1, n2, sR, wR, Wb, d, g1, g2, g3, g4, g5, g6, g7, g8, g9, g10⟩ := (i7 W1 (w + 1) n c2 ht1 (by omega) (by omega)).2 rfl
            obtain ⟨n2, rfl⟩ : ∃ z, n2 = z + 1 := ⟨n2 - 1, by unfold zF at g10; omega⟩
            obtain ⟨W4, e1, e2, e3, e4, e5⟩ := rc_close (n := n2) (k := f_X12_readsCondition_40 54 n1) g2 he a2 h41 (land_end g4 g5 g6 (by omega) (ht1.to g7 (Nat.le_refl _)) (by omega) (by omega) (Or.inr (by omega))) g6 (by omega)
            refine ⟨W4, zF, n1, n2, ?_, e3, ((c3.tr g7 (Nat.le_refl _) (by omega))).tr e4 (by omega) (Nat.le_refl _), ?_, by omega, by omega, by omega⟩
            · rw [c1, g1, e2 (by omega)]
              rfl
            · obtain ⟨t1, t2⟩ := tp_cell (M := M2) (p := p2 + 1) (f := 0) hq
              exact (g8.w (fun k _ => by rw [e5])).m (fun k _ => by rw [t1, t2]; exact ⟨rfl, rfl⟩)
        · have hnz : flt 1 p2 ≠ 0 := flt_nz (by omega) (by omega) (by omega)
          rw [if_neg (show ¬ sg B e p2 = nI 41 from h41)]
          refine ⟨tpM M2 p2 (flt 1 p2), flt 1 p2, p2, s2, rfl, i2.tp hq, kf.tr (KF.tp (s := s) hq) (Nat.le_refl _), i4, i5, fun hz => absurd hz hnz, ?_⟩
          intro W w n hR hN hw1 hw hn
          refine ⟨fun _ => ?_, fun hz => absurd hz hnz⟩
          obtain ⟨n, rfl⟩ : ∃ z, n = z + 1 := ⟨n - 1, by omega⟩
          obtain ⟨W1, c1, c2, c3, c4⟩ := ts_open (n := n) (i := 1) hR he hp (by omega) h6 (by omega) h40
          have c4' : W1.1 60 w = nI (1048576 * 13) := c4
          have ht1 : tpo W1 (w + 1) 13 := tpo.mk0 c4' (by omega)
          obtain ⟨W', n1, n2, sR, wR, Wb, d, g1, g2, g3, g4, g5, g6, g7, g8, g9, g10⟩ := (i7 W1 (w + 1) n c2 ht1 (by omega) (by omega)).2 rfl
          obtain ⟨n2, rfl⟩ : ∃ z, n2 = z + 1 := ⟨n2 - 1, by unfold zF at g10; omega⟩
          obtain ⟨W4, e1, e2, e3⟩ := rc_bad (s := s) (w := w) (n := n2) (k := f_X12_readsCondition_40 54 n1) g2 he a2 h41 a5 a6
          exact ⟨W4, by rw [c1, g1, e1], (c3.tr g3 (Nat.le_refl _) (by omega)).tr e2 (Nat.le_refl _) (Nat.le_refl _), e3⟩
      · rw [c_expectF i2.2.2.1 hf (by decide), z_call_eq]
        refine ⟨M2, f2, p2, s2, rfl, i2, kf, i4, i5, fun hz => absurd hz hf, ?_⟩
        intro W w n hR hN hw1 hw hn
        refine ⟨fun _ => ?_, fun hz => absurd hz hf⟩
        obtain ⟨n, rfl⟩ : ∃ z, n = z + 1 := ⟨n - 1, by omega⟩
        obtain ⟨W1, c1, c2, c3, c4⟩ := ts_open (n := n) (i := 1) hR he hp (by omega) h6 (by omega) h40
        have c4' : W1.1 60 w = nI (1048576 * 13) := c4
        obtain ⟨W', g1, g2, g3⟩ := (i7 W1 (w + 1) n c2 (tpo.mk0 c4' (by omega)) (by omega) (by omega)).1 hf
        exact ⟨W', c1.trans g1, c3.tr g2 (Nat.le_refl _) (by omega), g3⟩
    · have hnz : flt 5 p ≠ 0 := flt_nz (by omega) (by omega) (by omega)
      rw [if_neg h6, z_call_eq, if_pos rfl]
      refine ⟨tpM M p (flt 5 p), flt 5 p, p, s, rfl, hK.tp hq, KF.tp hq, Nat.le_refl _, by omega, fun hz => absurd hz hnz, ?_⟩
      intro W w n hR hN hw1 hw hn
      exact ⟨deep 1 (by omega) h40 h6 W w n hR hN hw1 hw hn, fun hz => absurd hz hnz⟩
  rw [if_neg h40]
  obtain ⟨M1, f1, p1, s1, i1, i2, i3, i4, i5, i6, i7⟩ := am_top he ho ham M p s 0 hK hp hs (by omega)
  have i1' : (g_X5 nd).2.2.2.1 38 (nI o) M = some ((), M1) := i1
  rw [i1', z_call_eq, i2.t0, z_rd_eq]
  by_cases hf1 : f1 = 0
  · subst hf1
    obtain ⟨a1, a2, a3, a4⟩ := i6 rfl
    rw [i2.sg he a2, z_call_eq]
    rcases cmps (sg B e p1) with ⟨i, hi, hx⟩ | ⟨n60, n62, n61⟩
    · have hp1 : p1 < e := cms_lt hi hx
      have hK1 : KC (tpM M1 (p1 + 1) 0) B q e (p1 + 1) s1 0 := i2.tp hq
      obtain ⟨M2, f2, p2, s2, j1, j2, j3, j4, j5, j6, j7⟩ := am_top he ho ham (tpM M1 (p1 + 1) 0) (p1 + 1) s1 1 hK1 (by omega) (by omega) (by omega)
      have j1' : (g_X5 nd).2.2.2.1 38 (nI o) (tpM M1 (p1 + 1) 0) = some ((), M2) := j1
      have kf2 : KF q s1 M1 M2 := (KF.tp hq).tr j3 (Nat.le_refl _)
      have h119 : (if sg B e p1 = 60 then (f_X5_readTest_119 (g_X5 nd).1 (g_X5 nd).2.1 (g_X5 nd).2.2.1 (g_X5 nd).2.2.2.1 (g_X5 nd).2.2.2.2.1 (g_X5 nd).2.2.2.2.2 38 (nI o) (sg B e p1) M1) else (if sg B e p1 = 62 then (f_X5_readTest_119 (g_X5 nd).1 (g_X5 nd).2.1 (g_X5 nd).2.2.1 (g_X5 nd).2.2.2.1 (g_X5 nd).2.2.2.2.1 (g_X5 nd).2.2.2.2.2 38 (nI o) (sg B e p1) M1) else (if sg B e p1 = 61 then (f_X5_readTest_119 (g_X5 nd).1 (g_X5 nd).2.1 (g_X5 nd).2.2.1 (g_X5 nd).2.2.2.1 (g_X5 nd).2.2.2.2.1 (g_X5 nd).2.2.2.2.2 38 (nI o) (sg B e p1) M1) else z_rd (M1.2.1 38 0) fun a_17 => z_rd (M1.2.1 38 0) fun a_18 => z_call (f_X10_failAt a_17 1 (M1.1 a_18 3) M1) fun v_19 M_20 => some ((), M_20)))) = (z_call (f_X4_add q (sg B e p1) 0 M2) fun _ M_10 => some ((), M_10)) := by
        have h1 : f_X5_readTest_119 (g_X5 nd).1 (g_X5 nd).2.1 (g_X5 nd).2.2.1 (g_X5 nd).2.2.2.1 (g_X5 nd).2.2.2.2.1 (g_X5 nd).2.2.2.2.2 38 (nI o) (sg B e p1) M1 = (z_call (f_X4_add q (sg B e p1) 0 M2) fun _ M_10 => some ((), M_10)) := by
          rw [f_X5_readTest_119, i2.t0, z_rd_eq, i2.stp, z_call_eq, j1', z_call_eq, j2.t1, z_rd_eq]
        rcases (show i = 0 ∨ i = 1 ∨ i = 2 by omega) with rfl | rfl | rfl
        · rw [if_pos (show sg B e p1 = 60 from hx), h1]
        · rw [if_neg (by rw [hx]; decide), if_pos (show sg B e p1 = 62 from hx), h1]
        · rw [if_neg (by rw [hx]; decide), if_neg (by rw [hx]; decide), if_pos (show sg B e p1 = 61 from hx), h1]
      rw [h119]
      by_cases hf2 : f2 = 0
      · subst hf2
        obtain ⟨b1, b2, b3, b4⟩ := j6 rfl
        obtain ⟨M3, c1, c2, c3, c4, c5⟩ := k_add (x := sg B e p1) (v := 0) hq j2 (by omega)
        have kf3 : KF q s1 M1 M3 := kf2.tr c3 j4
        rw [c1, z_call_eq]
        refine ⟨M3, 0, p2, s2 + 1, rfl, c2, i3.tr kf3 i4, by omega, by omega, fun _ => ⟨by omega, b2, by omega, ?_⟩, ?_⟩
        · exact CXs.cmp (s1 := s1) (a4.cg (fun k _ hk => (kf3.2.2.2.1 k hk).1) (fun k _ hk => (kf3.2.2.2.1 k hk).2)) (b4.cg (fun k _ hk => (c3.2.2.2.1 k hk).1) (fun k _ hk => (c3.2.2.2.1 k hk).2)) hi (c4.trans hx)
        · intro W w n hR hN hw1 hw hn
          refine ⟨fun hz => absurd rfl hz, fun _ => ?_⟩
          obtain ⟨n, rfl⟩ : ∃ z, n = z + 1 := ⟨n - 1, by omega⟩
          obtain ⟨W1, g1, g2, g3, g4⟩ := (i7 W w hR hN (by omega)).2 rfl
          obtain ⟨W2, h1, h2, h3, h4⟩ := rc_cmp (p := p) (s := s) g1 g2 he a2 hi hx
          obtain ⟨W3, k1, k2, k3, k4⟩ := (j7 W2 w h2 ((hN.to g3 (Nat.le_refl _)).to h3 (Nat.le_refl _)) (by omega)).2 rfl
          obtain ⟨W4, m1, m2, m3, m4, m5⟩ := r_notes (a := 7 + i) (v := 0) k2 (by omega)
          have xw3 : KX s w W W3 := (g3.tr h3 i4 (Nat.le_refl _)).tr k3 i4 (Nat.le_refl _)
          refine ⟨W4, zF, n, zF, ?_, m2, xw3.tr m3 (by omega) (Nat.le_refl _), ?_, by omega, by omega, by omega⟩
          · rw [ts_cmp hR he hp h33 h40, h1, k1, z_call_eq, if_neg (by decide), show (0 : Int32) = nI 0 from rfl, m1, z_call_eq, f_X12_endsPiece]
            unfold Ex
            cases f_X12_endsPiece_0 54 zF W4 with
            | none => rfl
            | some r =>
              obtain ⟨u, W5⟩ := r
              rw [z_call_eq, z_call_eq, z_call_eq, if_neg (by decide)]
          · refine CDS.ap (s1 := s1) ?_ (CDS.ap (s1 := s2) ?_ (CDS.one ?_))
            · exact (g4.w (fun k hk => (m3.2.2.1 k (by omega)).trans ((k3.2.2.1 k hk).trans (by rw [h4])))).m (fun k hk => kf3.2.2.2.1 k hk)
            · exact (k4.w (fun k hk => m3.2.2.1 k hk)).m (fun k hk => c3.2.2.2.1 k hk)
            · rw [m4, c4, hx, enc_cm hi]
              rfl
      · obtain ⟨M3, s3, c1, c2, c3, c4, c5⟩ := k_addA (x := sg B e p1) (v := 0) hq j2 j5
        rw [c1, z_call_eq]
        refine ⟨M3, f2, p2, s3, rfl, c2, i3.tr (kf2.tr c3 j4) i4, by omega, c5, fun hz => absurd hz hf2, ?_⟩
        intro W w n hR hN hw1 hw hn
        refine ⟨fun _ => ?_, fun hz => absurd hz hf2⟩
        obtain ⟨n, rfl⟩ : ∃ z, n = z + 1 := ⟨n - 1, by omega⟩
        obtain ⟨W1, g1, g2, g3, g4⟩ := (i7 W w hR hN (by omega)).2 rfl
        obtain ⟨W2, h1, h2, h3, h4⟩ := rc_cmp (p := p) (s := s) g1 g2 he a2 hi hx
        obtain ⟨W3, k1, k2, k3⟩ := (j7 W2 w h2 ((hN.to g3 (Nat.le_refl _)).to h3 (Nat.le_refl _)) (by omega)).1 hf2
        refine ⟨W3, ?_, (g3.tr h3 i4 (Nat.le_refl _)).tr k2 i4 (Nat.le_refl _), k3⟩
        rw [ts_cmp hR he hp h33 h40, h1, k1, z_call_eq, if_pos rfl, z_call_eq, if_pos rfl]
    · have hnz : flt 1 p1 ≠ 0 := flt_nz (by omega) (by omega) (by omega)
      rw [if_neg n60, if_neg n62, if_neg n61, i2.t0, z_rd_eq, z_rd_eq, show (1 : Int32) = nI 1 from rfl, i2.fl, z_call_eq]
      refine ⟨tpM M1 p1 (flt 1 p1), flt 1 p1, p1, s1, rfl, i2.tp hq, i3.tr (KF.tp (s := s1) hq) i4, i4, i5, fun hz => absurd hz hnz, ?_⟩
      intro W w n hR hN hw1 hw hn
      refine ⟨fun _ => ?_, fun hz => absurd hz hnz⟩
      obtain ⟨n, rfl⟩ : ∃ z, n = z + 1 := ⟨n - 1, by omega⟩
      obtain ⟨W1, g1, g2, g3, g4⟩ := (i7 W w hR hN (by omega)).2 rfl
      obtain ⟨W2, h1, h2, h3⟩ := rc_cmpF g1 g2 he a2 n60 n62 n61
      refine ⟨W2, ?_, g3.tr h2 i4 (Nat.le_refl _), h3⟩
      rw [ts_cmp hR he hp h33 h40, h1, z_call_eq, if_pos rfl]
  · rw [i2.sgF hf1, z_call_eq, if_neg (by decide), if_neg (by decide), if_neg (by decide), i2.t0, z_rd_eq, z_rd_eq, i2.flF hf1, z_call_eq]
    refine ⟨M1, f1, p1, s1, rfl, i2, i3, i4, i5, fun hz => absurd hz hf1, ?_⟩
    intro W w n hR hN hw1 hw hn
    refine ⟨fun _ => ?_, fun hz => absurd hz hf1⟩
    obtain ⟨n, rfl⟩ : ∃ z, n = z + 1 := ⟨n - 1, by omega⟩
    obtain ⟨W1, g1, g2, g3⟩ := (i7 W w hR hN (by omega)).1 hf1
    refine ⟨W1, ?_, g2, g3⟩
    rw [ts_cmp hR he hp h33 h40, f_X12_readsCompared, g1, z_call_eq, if_pos rfl, z_call_eq, if_pos rfl]
