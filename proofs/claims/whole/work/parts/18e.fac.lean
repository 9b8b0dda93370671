/-! reading a law: factors -/
noncomputable def gFa (n : Nat) : Nat → Int32 → zM → Option (Unit × zM) := (g_X5 n).2.2.2.2.2
noncomputable def gTe (n : Nat) : Nat → Int32 → zM → Option (Unit × zM) := (g_X5 n).2.2.2.2.1
noncomputable def gAm (n : Nat) : Nat → Int32 → zM → Option (Unit × zM) := (g_X5 n).2.2.2.1
noncomputable def gTs (n : Nat) : Nat → Int32 → zM → Option (Unit × zM) := (g_X5 n).2.2.1
noncomputable def gPa (n : Nat) : Nat → Int32 → zM → Option (Unit × zM) := (g_X5 n).2.1
noncomputable def gCn (n : Nat) : Nat → Int32 → zM → Option (Unit × zM) := (g_X5 n).1
/-- the reference's codes are the class's -/
def CDS (M : zM) (q s s' : Nat) (W : zM) : Prop := ∀ k, s ≤ k → k < s' → W.1 59 k = enc (M.1 (q + 1) k) (M.1 (q + 2) k)
def FaL (B : Nat → Nat) (e q o : Nat) (cls : Nat → Int32 → zM → Option (Unit × zM)) : Prop := ∀ (M : zM) p s h, KC M B q e p s 0 → p ≤ e → s ≤ p → h ≤ 2 * o + 2 → ∃ M' f p' s', cls 38 (nI o) M = some ((), M') ∧ KC M' B q e p' s' f ∧ KF q s M M' ∧ s ≤ s' ∧ s' ≤ 240 ∧ (f = 0 → p < p' ∧ p' ≤ e ∧ s' + p ≤ p' + s ∧ EXs (M'.1 (q + 1)) (M'.1 (q + 2)) h s s') ∧ ∀ (W : zM) w base m n, KR W B e p s w o → w ≤ 5 * o + 22 → base ≤ w → e - p < m → e - p < n →
  (f ≠ 0 → ∃ W', RFx m n (nI base) W = some (0, W') ∧ KX s w W W' ∧ W'.1 54 7 = f) ∧
  (f = 0 → ∃ W' n', RFx m n (nI base) W = f_X12_readsSum_14 54 n' (nI base) W' ∧ KR W' B e p' s' w o ∧ KX s w W W' ∧ CDS M' q s s' W' ∧ n ≤ n' + (p' - p))
def AmL (B : Nat → Nat) (e q o : Nat) (cls : Nat → Int32 → zM → Option (Unit × zM)) : Prop := ∀ (M : zM) p s h, KC M B q e p s 0 → p ≤ e → s ≤ p → h ≤ 2 * o → ∃ M' f p' s', cls 38 (nI o) M = some ((), M') ∧ KC M' B q e p' s' f ∧ KF q s M M' ∧ s ≤ s' ∧ s' ≤ 240 ∧ (f = 0 → p < p' ∧ p' ≤ e ∧ s' + p ≤ p' + s ∧ EXs (M'.1 (q + 1)) (M'.1 (q + 2)) h s s' ∧ ∀ M, f_X12_sumSign (sg B e p') M = some (-1, M)) ∧ ∀ (W : zM) w base m n, KR W B e p s w o → NS W w → w ≤ 5 * o + 20 → base ≤ w → e - p < m → e - p < n →
  (f ≠ 0 → ∃ W', RFx m n (nI base) W = some (0, W') ∧ KX s w W W' ∧ W'.1 54 7 = f) ∧
  (f = 0 → ∃ W' n' sR wR Wb d, RFx m n (nI base) W = f_X12_readsSum_14 54 n' (nI base) W' ∧ KR W' B e p' sR wR o ∧ KX s w W W' ∧ w ≤ wR ∧ wR ≤ w + 2 ∧ SW W' w wR ∧ d ≤ 2 ∧ (∀ k, f_X12_closesSums_0 54 1 (k + d) W' = f_X12_closesSums_0 54 1 k Wb) ∧ KR Wb B e p' s' w o ∧ KX s w W Wb ∧ CDS M' q s s' Wb ∧ n ≤ n' + (p' - p))
theorem CDS.one {M W : zM} {q s : Nat} (h : W.1 59 s = enc (M.1 (q + 1) s) (M.1 (q + 2) s)) : CDS M q s (s + 1) W := fun k a b => by
  obtain rfl : k = s := by omega
  exact h
theorem CDS.w {M W W' : zM} {q s s' : Nat} (h : CDS M q s s' W) (e : ∀ k, k < s' → W'.1 59 k = W.1 59 k) : CDS M q s s' W' := fun k a b => (e k b).trans (h k a b)
theorem CDS.m {M M' W : zM} {q s s' : Nat} (h : CDS M q s s' W) (e : ∀ k, k < s' → M'.1 (q + 1) k = M.1 (q + 1) k ∧ M'.1 (q + 2) k = M.1 (q + 2) k) : CDS M' q s s' W := fun k a b => by rw [(e k b).1, (e k b).2]; exact h k a b
theorem CDS.ap {M W : zM} {q s s1 s2 : Nat} (h1 : CDS M q s s1 W) (h2 : CDS M q s1 s2 W) : CDS M q s s2 W := fun k a b => by
  by_cases h : k < s1
  · exact h1 k a h
  · exact h2 k (by omega) b
theorem close_end {W Wb : zM} {B : Nat → Nat} {e p s w o d : Nat} (hd : d ≤ 2) (hc : ∀ k, f_X12_closesSums_0 54 1 (k + d) W = f_X12_closesSums_0 54 1 k Wb) (h : KR Wb B e p s w o) (hw : w ≤ 260) (hn : NS Wb w) : f_X12_closesSums 54 1 W = some ((), Wb) := by
  have := hc (zF - d)
  rw [show zF - d + d = zF by unfold zF; omega] at this
  rw [f_X12_closesSums, this, show zF - d = (zF - d - 1) + 1 by unfold zF; omega]
  exact r_stop h hw hn
theorem fa_of {B : Nat → Nat} {e q o nd : Nat} (hq : LO q) (he : e ≤ 240) (ho : o ≤ 6) (ham : o < 6 → AmL B e q (o + 1) (gAm nd)) : FaL B e q o (gFa (nd + 1)) := by
  intro M p s h hK hp hs hh
  have hBl := hK.2.1.lt
  have hd0 : gFa (nd + 1) 38 (nI o) M = f_X5_readFactor (g_X5 nd).1 (g_X5 nd).2.1 (g_X5 nd).2.2.1 (g_X5 nd).2.2.2.1 (g_X5 nd).2.2.2.2.1 (g_X5 nd).2.2.2.2.2 38 (nI o) M := rfl
  rw [hd0, f_X5_readFactor, hK.t0, z_rd_eq, hK.sg he hp, z_call_eq]
  by_cases h91 : sg B e p = 91
  · have hpe : p < e := sg_cases 91 (by omega) h91
    rw [if_pos h91, k_opens hK ho]
    by_cases h6 : o < 6
    · rw [if_pos h6, z_call_eq, if_neg (by decide), nI_1]
      have hK1 : KC (tpM M (p + 1) 0) B q e (p + 1) s 0 := hK.tp hq
      obtain ⟨M2, f2, p2, s2, i1, i2, i3, i4, i5, i6, i7⟩ := ham h6 (tpM M (p + 1) 0) (p + 1) s h hK1 (by omega) (by omega) (by omega)
      have i1' : (g_X5 nd).2.2.2.1 38 (nI (o + 1)) (tpM M (p + 1) 0) = some ((), M2) := i1
      have kf : KF q s M M2 := (KF.tp hq).tr i3 (Nat.le_refl _)
      rw [i1', z_call_eq, i2.t0, z_rd_eq]
      by_cases hf : f2 = 0
      · subst hf
        obtain ⟨a1, a2, a3, a4, a5⟩ := i6 rfl
        rw [show (93 : Int32) = nI 93 from rfl, k_expect i2 he a2, z_call_eq]
        by_cases h93 : sg B e p2 = 93
        · have hp2 : p2 < e := sg_cases 93 (by omega) h93
          rw [if_pos (show sg B e p2 = nI 93 from h93)]
          refine ⟨tpM M2 (p2 + 1) 0, 0, p2 + 1, s2, rfl, i2.tp hq, kf.tr (KF.tp (s := s) hq) (Nat.le_refl _), i4, i5, fun _ => ⟨by omega, by omega, by omega, ?_⟩, ?_⟩
          · exact a4.cg (fun k _ _ => by rw [tpM_o (by rcases hq with rfl | rfl <;> decide)]) (fun k _ _ => by rw [tpM_o (by rcases hq with rfl | rfl <;> decide)])
          · intro W w base m n hR hw hb hm hn
            refine ⟨fun hz => absurd rfl hz, fun _ => ?_⟩
            obtain ⟨m, rfl⟩ : ∃ z, m = z + 1 := ⟨m - 1, by omega⟩
            obtain ⟨W1, b1, b2, b3, b4⟩ := rf_open (m := m) (n := n) (b := nI base) hR he hp (by omega) h6 h91
            obtain ⟨W', n', sR, wR, Wb, d, c1, c2, c3, c4, c5, c6, c7, c8, c9, c10, c11, c12⟩ := (i7 W1 (w + 1) base m n b2 (Or.inr ⟨14, tpo.mk0 b4 (by omega), by omega, by omega⟩) (by omega) (by omega) (by omega) (by omega)).2 rfl
            have hns : NS Wb (w + 1) := Or.inr ⟨14, (tpo.mk0 b4 (by omega)).to c10 (Nat.le_refl _), by omega, by omega⟩
            obtain ⟨n', rfl⟩ : ∃ z, n' = z + 1 := ⟨n' - 1, by omega⟩
            obtain ⟨W2, u1, u2, u3, u4⟩ := rs_brk (n := n') c2 he a2 h93 (by omega) (show w < wR by omega) ((c3.2.2.2.1 w (by omega)).trans b4) hb (close_end c7 c8 c9 (by omega) hns) c9
            refine ⟨W2, n', ?_, u2, ?_, ?_, by omega⟩
            · rw [b1, c1, u1]
            · exact (b3.tr c10 (Nat.le_refl _) (by omega)).tr u3 (by omega) (Nat.le_refl _)
            · refine (c11.w (fun k _ => by rw [u4])).m (fun k _ => ?_)
              rw [tpM_o (by rcases hq with rfl | rfl <;> decide), tpM_o (by rcases hq with rfl | rfl <;> decide)]
              exact ⟨rfl, rfl⟩
        · have hnz : flt 1 p2 ≠ 0 := flt_nz (by omega) (by omega) (by omega)
          rw [if_neg (show ¬ sg B e p2 = nI 93 from h93)]
          refine ⟨tpM M2 p2 (flt 1 p2), flt 1 p2, p2, s2, rfl, i2.tp hq, kf.tr (KF.tp (s := s) hq) (Nat.le_refl _), i4, i5, fun hz => absurd hz hnz, ?_⟩
          intro W w base m n hR hw hb hm hn
          refine ⟨fun _ => ?_, fun hz => absurd hz hnz⟩
          obtain ⟨m, rfl⟩ : ∃ z, m = z + 1 := ⟨m - 1, by omega⟩
          obtain ⟨W1, b1, b2, b3, b4⟩ := rf_open (m := m) (n := n) (b := nI base) hR he hp (by omega) h6 h91
          obtain ⟨W', n', sR, wR, Wb, d, c1, c2, c3, c4, c5, c6, c7, c8, c9, c10, c11, c12⟩ := (i7 W1 (w + 1) base m n b2 (Or.inr ⟨14, tpo.mk0 b4 (by omega), by omega, by omega⟩) (by omega) (by omega) (by omega) (by omega)).2 rfl
          obtain ⟨n', rfl⟩ : ∃ z, n' = z + 1 := ⟨n' - 1, by omega⟩
          obtain ⟨W2, u1, u2, u3⟩ := rs_brkF (n := n') (s := s) c2 he a2 a5 h93 (by omega) (show w < wR by omega) ((c3.2.2.2.1 w (by omega)).trans b4) hb
          refine ⟨W2, ?_, (b3.tr c3 (Nat.le_refl _) (by omega)).tr u2 (Nat.le_refl _) (Nat.le_refl _), u3⟩
          rw [b1, c1, u1]
      · rw [c_expectF i2.2.2.1 hf (by decide), z_call_eq]
        refine ⟨M2, f2, p2, s2, rfl, i2, kf, i4, i5, fun hz => absurd hz hf, ?_⟩
        intro W w base m n hR hw hb hm hn
        refine ⟨fun _ => ?_, fun hz => absurd hz hf⟩
        obtain ⟨m, rfl⟩ : ∃ z, m = z + 1 := ⟨m - 1, by omega⟩
        obtain ⟨W1, b1, b2, b3, b4⟩ := rf_open (m := m) (n := n) (b := nI base) hR he hp (by omega) h6 h91
        obtain ⟨W', c1, c2, c3⟩ := (i7 W1 (w + 1) base m n b2 (Or.inr ⟨14, tpo.mk0 b4 (by omega), by omega, by omega⟩) (by omega) (by omega) (by omega) (by omega)).1 hf
        exact ⟨W', b1.trans c1, b3.tr c2 (Nat.le_refl _) (by omega), c3⟩
    · obtain rfl : o = 6 := by omega
      have hnz : flt 5 p ≠ 0 := flt_nz (by omega) (by omega) (by omega)
      rw [if_neg h6, z_call_eq, if_pos rfl]
      refine ⟨tpM M p (flt 5 p), flt 5 p, p, s, rfl, hK.tp hq, KF.tp hq, Nat.le_refl _, by omega, fun hz => absurd hz hnz, ?_⟩
      intro W w base m n hR hw hb hm hn
      refine ⟨fun _ => ?_, fun hz => absurd hz hnz⟩
      obtain ⟨m, rfl⟩ : ∃ z, m = z + 1 := ⟨m - 1, by omega⟩
      exact rf_open6 hR he hp h91
  · rw [if_neg h91, c_isDigit hBl (by omega), z_call_eq]
    by_cases hd : isd B e p = true
    · obtain ⟨q1, q2, q3⟩ := isd_t hd
      have hrl : 1 ≤ rl B e 5 p := by rw [rl_t hd]; omega
      have hre := rl_e (B := B) (e := e) 5 p hp
      have hv : nmN B e 5 p < 100000 := vl_b (by omega)
      rw [if_pos hd, if_neg (by decide), hK.t1, z_rd_eq, hK.t0, z_rd_eq, show (5 : Int32) = nI 5 from rfl, c_number hK.1 hK.2.1 hK.2.2.1 (by omega) hp (by omega) (by omega), z_call_eq]
      have hK1 : KC (tpM M (p + rl B e 5 p) (nmF B e 5 p)) B q e (p + rl B e 5 p) s (nmF B e 5 p) := hK.tp hq
      by_cases hf : nmF B e 5 p = 0
      · obtain ⟨M2, i1, i2, i3, i4, i5⟩ := k_add (x := 48) (v := nI (nmN B e 5 p)) hq hK1 (by omega)
        rw [if_pos hf, i1, z_call_eq]
        rw [hf] at i2
        refine ⟨M2, 0, p + rl B e 5 p, s + 1, rfl, i2, (KF.tp hq).tr i3 (Nat.le_refl _), by omega, by omega, fun _ => ⟨by omega, hre, by omega, EXs.num (by omega) i4 i5 hv⟩, ?_⟩
        intro W w base m n hR hw hb hm hn
        refine ⟨fun hz => absurd rfl hz, fun _ => ?_⟩
        obtain ⟨m, rfl⟩ : ∃ z, m = z + 1 := ⟨m - 1, by omega⟩
        obtain ⟨W', c1, c2, c3, c4⟩ := (rf_num (m := m) (n := n) (b := nI base) hR he hp (by omega) h91 hd).1 hf
        exact ⟨W', n, c1, c2, c3, CDS.one (by rw [c4, i4, i5, enc_num]), by omega⟩
      · obtain ⟨M2, s2, i1, i2, i3, i4, i5⟩ := k_addA (x := 48) (v := -1) hq hK1 (by omega)
        rw [if_neg hf, i1, z_call_eq]
        refine ⟨M2, nmF B e 5 p, p + rl B e 5 p, s2, rfl, i2, (KF.tp hq).tr i3 (Nat.le_refl _), i4, i5, fun hz => absurd hz hf, ?_⟩
        intro W w base m n hR hw hb hm hn
        refine ⟨fun _ => ?_, fun hz => absurd hz hf⟩
        obtain ⟨m, rfl⟩ : ∃ z, m = z + 1 := ⟨m - 1, by omega⟩
        exact (rf_num (m := m) (n := n) (b := nI base) hR he hp (by omega) h91 hd).2 hf
    · rw [if_neg hd, if_pos rfl]
      rcases letters (sg B e p) with ⟨i, hi, hx, l1, l2⟩ | ⟨l1, l2⟩
      · have hpe : p < e := by
          have : ∃ x, x < 2 ^ 31 ∧ ltr i = nI x := by
            rcases (show i = 0 ∨ i = 1 ∨ i = 2 ∨ i = 3 ∨ i = 4 ∨ i = 5 ∨ i = 6 ∨ i = 7 by omega) with rfl | rfl | rfl | rfl | rfl | rfl | rfl | rfl
            · exact ⟨114, by omega, rfl⟩
            · exact ⟨115, by omega, rfl⟩
            · exact ⟨112, by omega, rfl⟩
            · exact ⟨102, by omega, rfl⟩
            · exact ⟨119, by omega, rfl⟩
            · exact ⟨103, by omega, rfl⟩
            · exact ⟨97, by omega, rfl⟩
            · exact ⟨104, by omega, rfl⟩
          obtain ⟨x, x1, x2⟩ := this
          exact sg_cases x x1 (hx.trans x2)
        rw [l1, z_call_eq, if_neg (by decide), hK.t0, z_rd_eq, hK.stp, z_call_eq]
        have hK1 : KC (tpM M (p + 1) 0) B q e (p + 1) s 0 := hK.tp hq
        obtain ⟨M2, i1, i2, i3, i4, i5⟩ := k_add (x := sg B e p) (v := 0) hq hK1 (by omega)
        rw [hK1.t1, z_rd_eq, i1, z_call_eq]
        refine ⟨M2, 0, p + 1, s + 1, rfl, i2, (KF.tp hq).tr i3 (Nat.le_refl _), by omega, by omega, fun _ => ⟨by omega, hpe, by omega, EXs.let (by omega) hi (i4.trans hx)⟩, ?_⟩
        intro W w base m n hR hw hb hm hn
        refine ⟨fun hz => absurd rfl hz, fun _ => ?_⟩
        obtain ⟨m, rfl⟩ : ∃ z, m = z + 1 := ⟨m - 1, by omega⟩
        obtain ⟨W', c1, c2, c3, c4⟩ := rf_let (m := m) (n := n) (b := nI base) hR he hp (by omega) h91 hd hi l2
        exact ⟨W', n, c1, c2, c3, CDS.one (by rw [c4, i4, hx, enc_let hi]), by omega⟩
      · have hnz : flt 1 p ≠ 0 := flt_nz (by omega) (by omega) (by omega)
        rw [l1, z_call_eq, if_pos rfl, hK.t0, z_rd_eq, z_rd_eq, show (1 : Int32) = nI 1 from rfl, hK.fl, z_call_eq]
        refine ⟨tpM M p (flt 1 p), flt 1 p, p, s, rfl, hK.tp hq, KF.tp hq, Nat.le_refl _, by omega, fun hz => absurd hz hnz, ?_⟩
        intro W w base m n hR hw hb hm hn
        refine ⟨fun _ => ?_, fun hz => absurd hz hnz⟩
        obtain ⟨m, rfl⟩ : ∃ z, m = z + 1 := ⟨m - 1, by omega⟩
        exact rf_bad hR he hp h91 hd l2
