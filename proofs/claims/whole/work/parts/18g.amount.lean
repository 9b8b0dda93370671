/-! reading a law: amounts -/
def AS (B : Nat → Nat) (e q o s w : Nat) (W0 M : zM) (p1 s1 : Nat) (W1 : zM) : Prop := ∃ sR wR Wa d, KR W1 B e p1 sR wR o ∧ KX s w W0 W1 ∧ w ≤ wR ∧ wR ≤ w + 2 ∧ SW W1 w wR ∧ d ≤ 2 ∧ (∀ k, f_X12_closesSums_0 54 1 (k + d) W1 = f_X12_closesSums_0 54 1 k Wa) ∧ KR Wa B e p1 s1 w o ∧ KX s w W0 Wa ∧ CDS M q s s1 Wa
theorem TS.as {B : Nat → Nat} {e q o s w : Nat} {W0 M : zM} {p1 s1 : Nat} {W1 : zM} (h : TS B e q o s w W0 M p1 s1 W1) : AS B e q o s w W0 M p1 s1 W1 := by
  obtain ⟨sR, wR, Wa, d, t1, t2, t3, t4, t5, t6, t7, t8, t9, t10⟩ := h
  exact ⟨sR, wR, Wa, d, t1, t2, t3, by omega, t5, by omega, fun k => t7 1 k, t8, t9, t10⟩
theorem sum_none {x : Int32} {M0 : zM} (h1 : x ≠ 43) (h2 : x ≠ 45) (h3 : ∀ M, f_X5_isTimes x M = some (0, M)) : ∀ M, f_X12_sumSign x M = some (-1, M) := by
  rcases sums x with ⟨a, ha, hx, l1, l2⟩ | ⟨_, l1, _⟩
  · exfalso
    have h4 := h3 M0
    rw [l2] at h4
    by_cases h5 : 2 ≤ a
    · rw [if_pos h5] at h4
      exact absurd (Prod.mk.inj (Option.some.inj h4)).1 (by decide)
    · rcases (show a = 0 ∨ a = 1 by omega) with rfl | rfl
      · exact h1 hx
      · exact h2 hx
  · exact l1
theorem am_lp {B : Nat → Nat} {e q o nd : Nat} (hq : LO q) (he : e ≤ 240) (ho : o ≤ 6) (hte : TeL B e q o (gTe nd)) : ∀ j k i (M1 : zM) p1 s1 s h, e - p1 ≤ j → j < k → KC M1 B q e p1 s1 0 → p1 ≤ e → s1 ≤ p1 → s ≤ s1 → i ≤ p1 → h ≤ 2 * o → EXs (M1.1 (q + 1)) (M1.1 (q + 2)) h s s1 → (∀ M, f_X5_isTimes (sg B e p1) M = some (0, M)) → ∃ M' f p' s', al7 nd (nI o) k (nI i) M1 = some ((), M') ∧ KC M' B q e p' s' f ∧ KF q s1 M1 M' ∧ s1 ≤ s' ∧ s' ≤ 240 ∧ (f = 0 → p1 ≤ p' ∧ p' ≤ e ∧ s' + p1 ≤ p' + s1 ∧ EXs (M'.1 (q + 1)) (M'.1 (q + 2)) h s s' ∧ ∀ M, f_X12_sumSign (sg B e p') M = some (-1, M)) ∧ ∀ (W0 W1 : zM) w base n1, AS B e q o s w W0 M1 p1 s1 W1 → NS W0 w → w ≤ 5 * o + 20 → base ≤ w → e - p1 < n1 →
  (f ≠ 0 → ∃ W', f_X12_readsSum_14 54 n1 (nI base) W1 = some (0, W') ∧ KX s w W0 W' ∧ W'.1 54 7 = f) ∧
  (f = 0 → ∃ W' n', f_X12_readsSum_14 54 n1 (nI base) W1 = f_X12_readsSum_14 54 n' (nI base) W' ∧ AS B e q o s w W0 M' p' s' W' ∧ n1 ≤ n' + (p' - p1)) := by
  intro j
  induction j with
  | zero =>
    intro k i M1 p1 s1 s h hj hk hK hp hs hs0 hi hh hE htm
    obtain ⟨k, rfl⟩ : ∃ z, k = z + 1 := ⟨k - 1, by omega⟩
    have hsg : sg B e p1 = -1 := by unfold sg; rw [if_neg (by omega)]
    refine ⟨M1, 0, p1, s1, al7_st hK he hp (by rw [hsg]; decide) (by rw [hsg]; decide), hK, KF.rf, Nat.le_refl _, by omega, fun _ => ⟨Nat.le_refl _, hp, by omega, hE, sum_none (M0 := M1) (by rw [hsg]; decide) (by rw [hsg]; decide) htm⟩, ?_⟩
    intro W0 W1 w base n1 hT hM hw hb hn
    exact ⟨fun hz => absurd rfl hz, fun _ => ⟨W1, n1, rfl, hT, by omega⟩⟩
  | succ j ih =>
    intro k i M1 p1 s1 s h hj hk hK hp hs hs0 hi hh hE htm
    obtain ⟨k, rfl⟩ : ∃ z, k = z + 1 := ⟨k - 1, by omega⟩
    by_cases hop : sg B e p1 = 43 ∨ sg B e p1 = 45
    · have hA : ∃ a, a < 2 ∧ sg B e p1 = ars a ∧ ∀ M, f_X12_sumSign (sg B e p1) M = some (nI (2 + a), M) := by
        rcases hop with h1 | h1
        · exact ⟨0, by omega, h1, fun M => by rw [h1]; rfl⟩
        · exact ⟨1, by omega, h1, fun M => by rw [h1]; rfl⟩
      obtain ⟨a, ha, hx, l1⟩ := hA
      have hpe : p1 < e := ars_lt (by omega) hx
      have hK1 : KC (tpM M1 (p1 + 1) 0) B q e (p1 + 1) s1 0 := hK.tp hq
      obtain ⟨M2, f2, p2, s2, i1, i2, i3, i4, i5, i6, i7⟩ := hte (tpM M1 (p1 + 1) 0) (p1 + 1) s1 (h + 1) hK1 (by omega) (by omega) (by omega)
      have kf : KF q s1 M1 M2 := (KF.tp hq).tr i3 (Nat.le_refl _)
      have hcl : ∀ (W0 W1 : zM) w sR wR (Wa : zM) d, w ≤ 5 * o + 20 → NS W0 w → d ≤ 2 → (∀ k, f_X12_closesSums_0 54 1 (k + d) W1 = f_X12_closesSums_0 54 1 k Wa) → KR Wa B e p1 s1 w o → KX s w W0 Wa → KR W1 B e p1 sR wR o → f_X12_closesSums 54 (if 2 ≤ a then 0 else 1) W1 = some ((), Wa) := by
        intro W0 W1 w sR wR Wa d hw hM hd t7 t8 t9 t1
        rw [if_neg (by omega)]
        exact close_0 hd t7 t8 (by omega) (fun n => r_stop t8 (by omega) (hM.to t9 (Nat.le_refl _)))
      rw [al7_op hK he hp (by omega) hop, i1, z_call_eq, i2.t1, z_rd_eq]
      by_cases hf : f2 = 0
      · subst hf
        obtain ⟨a1, a2, a3, a4, a5⟩ := i6 rfl
        obtain ⟨M3, b1, b2, b3, b4, b5⟩ := k_add (x := sg B e p1) (v := 0) hq i2 (by omega)
        have kf3 : KF q s1 M1 M3 := kf.tr b3 i4
        have ex : EXs (M3.1 (q + 1)) (M3.1 (q + 2)) h s (s2 + 1) := by
          refine EXs.op (s1 := s1) (hE.cg (fun k _ hk => (kf3.2.2.2.1 k hk).1) (fun k _ hk => (kf3.2.2.2.1 k hk).2)) (a4.cg (fun k _ hk => (b3.2.2.2.1 k hk).1) (fun k _ hk => (b3.2.2.2.1 k hk).2)) (by omega) (show a < 5 by omega) (b4.trans hx)
        obtain ⟨M', f, p', s', u1, u2, u3, u4, u5, u6, u7⟩ := ih k (i + 1) M3 p2 (s2 + 1) s h (by omega) (by omega) b2 a2 (by omega) (by omega) (by omega) hh ex a5
        refine ⟨M', f, p', s', ?_, u2, kf3.tr u3 (by omega), by omega, u5, fun hz => ?_, ?_⟩
        · rw [b1, z_call_eq, u1]
        · obtain ⟨v1, v2, v3, v4, v5⟩ := u6 hz
          exact ⟨by omega, v2, by omega, v4, v5⟩
        · intro W0 W1 w base n1 hT hM hw hb hn
          obtain ⟨sR, wR, Wa, d, t1, t2, t3, t4, t5, t6, t7, t8, t9, t10⟩ := hT
          obtain ⟨n1, rfl⟩ : ∃ z, n1 = z + 1 := ⟨n1 - 1, by omega⟩
          obtain ⟨W2, x1, x2, x3, x4, x5⟩ := rs_op (n := n1) (b := nI base) t1 he hp (show a < 5 by omega) l1 (hcl W0 W1 w sR wR Wa d hw hM t6 t7 t8 t9 t1) t8 (by omega)
          have hNM : NM W2 (w + 1) := Or.inr ⟨2 + a, tpo.mk0 x4 (by omega), Or.inr (by omega)⟩
          obtain ⟨W3, n', y1, ⟨sR3, wR3, Wc, d3, c1, c2, c3, c4, c5, c6, c7, c8, c9, c10⟩, y5⟩ := (i7 W2 (w + 1) base zF n1 x2 hNM (by omega) (by omega) (by unfold zF; omega) (by omega)).2 rfl
          have e60 : Wc.1 60 w = nI (1048576 * (2 + a)) := (c9.2.2.2.1 w (by omega)).trans x4
          have e60' : W3.1 60 w = nI (1048576 * (2 + a)) := (c2.2.2.2.1 w (by omega)).trans x4
          obtain ⟨W4, z1, z2, z3, z4⟩ := r_close (j := 2 + a) c8 (by omega) (by omega) (tpo.mk0 e60 (by omega)) (by omega)
          have xa2 : KX s w W0 W2 := t9.tr x3 hs0 (Nat.le_refl _)
          have xa3 : KX s w W0 W3 := xa2.tr c2 hs0 (by omega)
          have xac : KX s w W0 Wc := xa2.tr c9 hs0 (by omega)
          have hT' : AS B e q o s w W0 M3 p2 (s2 + 1) W3 := by
            refine ⟨sR3, wR3, W4, d3 + 1, c1, xa3, by omega, by omega, fun k k1 k2 => ?_, by omega, fun k => ?_, z2, xac.tr z3 (by omega) (Nat.le_refl _), ?_⟩
            · by_cases hkw : k = w
              · exact ⟨2 + a, by omega, by omega, by rw [hkw]; exact e60'⟩
              · exact c5 k (by omega) k2
            · rw [show k + (d3 + 1) = (k + 1) + d3 by omega, c7 1 (k + 1), z1 1 k (Or.inr rfl)]
            · refine CDS.ap (s1 := s1) ?_ (CDS.ap (s1 := s2) ?_ (CDS.one ?_))
              · exact (t10.w (fun k hk => ((z3.2.2.1 k (by omega)).trans ((c9.2.2.1 k hk).trans (by rw [x5])))) ).m (fun k hk => kf3.2.2.2.1 k hk)
              · exact (c10.w (fun k hk => z3.2.2.1 k hk)).m (fun k hk => b3.2.2.2.1 k hk)
              · rw [z4, b4, b5, hx, enc_ar (by omega)]
          obtain ⟨r1, r2⟩ := u7 W0 W3 w base n' hT' hM hw hb (by omega)
          rw [x1, y1]
          refine ⟨r1, fun hz => ?_⟩
          obtain ⟨W', n'', g1, g2, g3⟩ := r2 hz
          obtain ⟨v1, v2, v3, v4, v5⟩ := u6 hz
          exact ⟨W', n'', g1, g2, by omega⟩
      · obtain ⟨M3, s3, b1, b2, b3, b4, b5⟩ := k_addA (x := sg B e p1) (v := 0) hq i2 i5
        obtain ⟨k, rfl⟩ : ∃ z, k = z + 1 := ⟨k - 1, by omega⟩
        refine ⟨M3, f2, p2, s3, ?_, b2, kf.tr b3 i4, by omega, b5, fun hz => absurd hz hf, ?_⟩
        · rw [b1, z_call_eq, al7_F b2 hf]
        · intro W0 W1 w base n1 hT hM hw hb hn
          obtain ⟨sR, wR, Wa, d, t1, t2, t3, t4, t5, t6, t7, t8, t9, t10⟩ := hT
          obtain ⟨n1, rfl⟩ : ∃ z, n1 = z + 1 := ⟨n1 - 1, by omega⟩
          obtain ⟨W2, x1, x2, x3, x4, x5⟩ := rs_op (n := n1) (b := nI base) t1 he hp (show a < 5 by omega) l1 (hcl W0 W1 w sR wR Wa d hw hM t6 t7 t8 t9 t1) t8 (by omega)
          have hNM : NM W2 (w + 1) := Or.inr ⟨2 + a, tpo.mk0 x4 (by omega), Or.inr (by omega)⟩
          obtain ⟨W3, y1, y2, y3⟩ := (i7 W2 (w + 1) base zF n1 x2 hNM (by omega) (by omega) (by unfold zF; omega) (by omega)).1 hf
          refine ⟨fun _ => ⟨W3, by rw [x1, y1], (t9.tr x3 hs0 (Nat.le_refl _)).tr y2 hs0 (by omega), y3⟩, fun hz => absurd hz hf⟩
    · have h1 : sg B e p1 ≠ 43 := fun z => hop (Or.inl z)
      have h2 : sg B e p1 ≠ 45 := fun z => hop (Or.inr z)
      refine ⟨M1, 0, p1, s1, al7_st hK he hp h1 h2, hK, KF.rf, Nat.le_refl _, by omega, fun _ => ⟨Nat.le_refl _, hp, by omega, hE, sum_none (M0 := M1) h1 h2 htm⟩, ?_⟩
      intro W0 W1 w base n1 hT hM hw hb hn
      exact ⟨fun hz => absurd rfl hz, fun _ => ⟨W1, n1, rfl, hT, by omega⟩⟩
theorem am_of {B : Nat → Nat} {e q o nd : Nat} (hq : LO q) (he : e ≤ 240) (ho : o ≤ 6) (hte : TeL B e q o (gTe nd)) : AmL B e q o (gAm (nd + 1)) := by
  intro M p s h hK hp hs hh
  obtain ⟨M1, f1, p1, s1, i1, i2, i3, i4, i5, i6, i7⟩ := hte M p s h hK hp hs (by omega)
  rw [gAm_eq, i1, z_call_eq]
  by_cases hf : f1 = 0
  · subst hf
    obtain ⟨a1, a2, a3, a4, a5⟩ := i6 rfl
    obtain ⟨M', f, p', s', u1, u2, u3, u4, u5, u6, u7⟩ := am_lp hq he ho hte (e - p1) zF 0 M1 p1 s1 s h (Nat.le_refl _) (by unfold zF; omega) i2 a2 (by omega) i4 (by omega) hh a4 a5
    refine ⟨M', f, p', s', u1, u2, i3.tr u3 i4, by omega, u5, fun hz => ?_, ?_⟩
    · obtain ⟨v1, v2, v3, v4, v5⟩ := u6 hz
      exact ⟨by omega, v2, by omega, v4, v5⟩
    · intro W w base m n hR hM hw hb hm hn
      obtain ⟨W1, n', y1, hT, y5⟩ := (i7 W w base m n hR hM.m (by omega) hb hm hn).2 rfl
      obtain ⟨r1, r2⟩ := u7 W W1 w base n' hT.as hM hw hb (by omega)
      rw [y1]
      refine ⟨r1, fun hz => ?_⟩
      obtain ⟨W', n'', g1, ⟨sR, wR, Wa, d, t1, t2, t3, t4, t5, t6, t7, t8, t9, t10⟩, g3⟩ := r2 hz
      obtain ⟨v1, v2, v3, v4, v5⟩ := u6 hz
      exact ⟨W', n'', sR, wR, Wa, d, g1, t1, t2, t3, t4, t5, t6, t7, t8, t9, t10, by omega⟩
  · refine ⟨M1, f1, p1, s1, ?_, i2, i3, i4, i5, fun hz => absurd hz hf, ?_⟩
    · rw [show zF = 999 + 1 from rfl]
      exact al7_F (y := 0) i2 hf
    · intro W w base m n hR hM hw hb hm hn
      exact ⟨fun _ => (i7 W w base m n hR hM.m (by omega) hb hm hn).1 hf, fun hz => absurd hz hf⟩
/-- amounts at every depth -/
theorem am_all {B : Nat → Nat} {e q : Nat} (hq : LO q) (he : e ≤ 240) : ∀ d o nd, o + d = 6 → 3 * d + 3 ≤ nd → AmL B e q o (gAm nd) := by
  intro d
  induction d with
  | zero =>
    intro o nd ho hn
    obtain ⟨nd, rfl⟩ : ∃ z, nd = z + 1 + 1 + 1 := ⟨nd - 3, by omega⟩
    exact am_of hq he (by omega) (te_of hq he (by omega) (fa_of hq he (by omega) (fun h => by omega)))
  | succ d ih =>
    intro o nd ho hn
    obtain ⟨nd, rfl⟩ : ∃ z, nd = z + 1 + 1 + 1 := ⟨nd - 3, by omega⟩
    exact am_of hq he (by omega) (te_of hq he (by omega) (fa_of hq he (by omega) (fun h => ih (o + 1) nd (by omega) (by omega))))
/-- a whole sum, where nothing of it is open yet -/
theorem am_top {B : Nat → Nat} {e q o nd : Nat} (he : e ≤ 240) (ho : o ≤ 6) (ham : AmL B e q o (gAm nd)) (M : zM) (p s h : Nat) (hK : KC M B q e p s 0) (hp : p ≤ e) (hs : s ≤ p) (hh : h ≤ 2 * o) : ∃ M' f p' s', gAm nd 38 (nI o) M = some ((), M') ∧ KC M' B q e p' s' f ∧ KF q s M M' ∧ s ≤ s' ∧ s' ≤ 240 ∧ (f = 0 → p < p' ∧ p' ≤ e ∧ s' + p ≤ p' + s ∧ EXs (M'.1 (q + 1)) (M'.1 (q + 2)) h s s') ∧ ∀ (W : zM) w, KR W B e p s w o → NS W w → w ≤ 5 * o + 20 →
  (f ≠ 0 → ∃ W', f_X12_readsSum 54 W = some (0, W') ∧ KX s w W W' ∧ W'.1 54 7 = f) ∧
  (f = 0 → ∃ W', f_X12_readsSum 54 W = some (1, W') ∧ KR W' B e p' s' w o ∧ KX s w W W' ∧ CDS M' q s s' W') := by
  obtain ⟨M', f, p', s', i1, i2, i3, i4, i5, i6, i7⟩ := ham M p s h hK hp hs hh
  refine ⟨M', f, p', s', i1, i2, i3, i4, i5, fun hz => ?_, ?_⟩
  · obtain ⟨a1, a2, a3, a4, a5⟩ := i6 hz
    exact ⟨a1, a2, a3, a4⟩
  · intro W w hR hN hw
    have hd : f_X12_readsSum 54 W = RFx zF zF (nI w) W := by
      rw [f_X12_readsSum, zl_eq, hR.2.2.2.2.1]
      rfl
    rw [hd]
    obtain ⟨r1, r2⟩ := i7 W w w zF zF hR hN hw (Nat.le_refl _) (by unfold zF; omega) (by unfold zF; omega)
    refine ⟨r1, fun hz => ?_⟩
    obtain ⟨a1, a2, a3, a4, a5⟩ := i6 hz
    obtain ⟨W', n', sR, wR, Wb, d, c1, c2, c3, c4, c5, c6, c7, c8, c9, c10, c11, c12⟩ := r2 hz
    obtain ⟨n', rfl⟩ : ∃ z, n' = z + 1 := ⟨n' - 1, by unfold zF at c12; omega⟩
    refine ⟨Wb, ?_, c9, c10, c11⟩
    rw [c1]
    exact rs_end c2 he a2 a5 (by omega) c4 c6 (close_end c7 c8 c9 (by omega) (hN.to c10 (Nat.le_refl _)))
