/-! reading a law: conditions -/
noncomputable def cl7 (n : Nat) (x : Int32) : Nat → Int32 → zM → Option (Unit × zM) := f_X5_readCondition_7 (g_X5 n).1 (g_X5 n).2.1 (g_X5 n).2.2.1 (g_X5 n).2.2.2.1 (g_X5 n).2.2.2.2.1 (g_X5 n).2.2.2.2.2 38 x
theorem gCn_eq {n : Nat} {x : Int32} {M : zM} : gCn (n + 1) 38 x M = z_call (gPa n 38 x M) fun _ M_2 => cl7 n x zF 0 M_2 := rfl
theorem cl7_F {M : zM} {B : Nat → Nat} {q e p s n k y : Nat} {f x : Int32} (h : KC M B q e p s f) (hf : f ≠ 0) : cl7 n x (k + 1) (nI y) M = some ((), M) := by
  show f_X5_readCondition_7 _ _ _ _ _ _ 38 x (k + 1) (nI y) M = _
  rw [f_X5_readCondition_7]
  by_cases h2 : (240 : Int32) ≤ nI y
  · rw [if_pos h2]
  · rw [if_neg h2, h.t0, z_rd_eq, h.sgF hf, z_call_eq, if_neg (by decide)]
theorem cl7_st {M : zM} {B : Nat → Nat} {q e p s n k y : Nat} {x : Int32} (h : KC M B q e p s 0) (he : e ≤ 240) (hp : p ≤ e) (h1 : sg B e p ≠ 124) : cl7 n x (k + 1) (nI y) M = some ((), M) := by
  show f_X5_readCondition_7 _ _ _ _ _ _ 38 x (k + 1) (nI y) M = _
  rw [f_X5_readCondition_7]
  by_cases h2 : (240 : Int32) ≤ nI y
  · rw [if_pos h2]
  · rw [if_neg h2, h.t0, z_rd_eq, h.sg he hp, z_call_eq, if_neg h1]
theorem cl7_op {M : zM} {B : Nat → Nat} {q e p s n k y : Nat} {x : Int32} (hq : LO q) (h : KC M B q e p s 0) (he : e ≤ 240) (hp : p ≤ e) (hy : y < 240) (h1 : sg B e p = 124) : cl7 n x (k + 1) (nI y) M = z_call (f_X4_add q 124 0 (tpM M (p + 1) 0)) fun v_12 M_13 => z_call (gPa n 38 x M_13) fun _ M_16 => z_rd (M_16.2.1 38 1) fun a_18 => z_call (f_X4_leadToHere a_18 v_12 M_16) fun _ M_20 => cl7 n x k (nI (y + 1)) M_20 := by
  have h2 : KC (tpM M (p + 1) 0) B q e (p + 1) s 0 := h.tp hq
  show f_X5_readCondition_7 _ _ _ _ _ _ 38 x (k + 1) (nI y) M = _
  rw [f_X5_readCondition_7, if_neg (show ¬ (240 : Int32) ≤ nI y from nI_ge (b := 240) hy (by omega)), h.t0, z_rd_eq, h.sg he hp, z_call_eq, if_pos h1, h.t0, z_rd_eq, h.stp, z_call_eq, h2.t1, z_rd_eq]
  simp only [zl_eq, nI_1]
  rfl
def QSl (B : Nat → Nat) (e q o s w : Nat) (W0 M : zM) (p1 s1 : Nat) (W1 : zM) : Prop := ∃ sR wR Wa d, KR W1 B e p1 sR wR o ∧ KX s w W0 W1 ∧ d ≤ 2 ∧ (∀ k, f_X12_lands_0 54 1 (k + d) W1 = f_X12_lands_0 54 1 k Wa) ∧ KR Wa B e p1 s1 w o ∧ KX s w W0 Wa ∧ CDS M q s s1 Wa
theorem co_lp {B : Nat → Nat} {e q o nd : Nat} (hq : LO q) (he : e ≤ 240) (ho : o ≤ 6) (ho1 : 1 ≤ o) (hin : PaL B e q o (gPa nd)) : ∀ j k i (M1 : zM) p1 s1 s, e - p1 ≤ j → j < k → KC M1 B q e p1 s1 0 → p1 ≤ e → s1 ≤ p1 → s ≤ s1 → i ≤ p1 → CXs (M1.1 (q + 1)) (M1.1 (q + 2)) s s1 → sg B e p1 ≠ 38 → ∃ M' f p' s', cl7 nd (nI o) k (nI i) M1 = some ((), M') ∧ KC M' B q e p' s' f ∧ KF q s M1 M' ∧ s1 ≤ s' ∧ s' ≤ 240 ∧ (f = 0 → p1 ≤ p' ∧ p' ≤ e ∧ s' + p1 ≤ p' + s1 ∧ CXs (M'.1 (q + 1)) (M'.1 (q + 2)) s s' ∧ sg B e p' ≠ 38 ∧ sg B e p' ≠ 124) ∧ ∀ (W0 W1 : zM) w n1 n2, QSl B e q o s w W0 M1 p1 s1 W1 → tpo W0 w 13 → w + 2 ≤ 3 * o → e - p1 < n1 → zF ≤ n2 + p1 →
  (f ≠ 0 → ∃ W', f_X12_readsCondition_92 54 (f_X12_readsCondition_40 54 n1) n2 W1 = some (0, W') ∧ KX s w W0 W' ∧ W'.1 54 7 = f) ∧
  (f = 0 → ∃ W' n1' n2', f_X12_readsCondition_92 54 (f_X12_readsCondition_40 54 n1) n2 W1 = f_X12_readsCondition_92 54 (f_X12_readsCondition_40 54 n1') n2' W' ∧ QSl B e q o s w W0 M' p' s' W' ∧ n1 ≤ n1' + (p' - p1) ∧ zF ≤ n2' + p') := by
  intro j
  induction j with
  | zero =>
    intro k i M1 p1 s1 s hj hk hK hp hs hs0 hi hE h38
    obtain ⟨k, rfl⟩ : ∃ z, k = z + 1 := ⟨k - 1, by omega⟩
    have hsg : sg B e p1 = -1 := by unfold sg; rw [if_neg (by omega)]
    refine ⟨M1, 0, p1, s1, cl7_st hK he hp (by rw [hsg]; decide), hK, KF.rf, Nat.le_refl _, by omega, fun _ => ⟨Nat.le_refl _, hp, by omega, hE, by rw [hsg]; decide, by rw [hsg]; decide⟩, ?_⟩
    intro W0 W1 w n1 n2 hT hM hw hn hn2
    exact ⟨fun hz => absurd rfl hz, fun _ => ⟨W1, n1, n2, rfl, hT, by omega, hn2⟩⟩
  | succ j ih =>
    intro k i M1 p1 s1 s hj hk hK hp hs hs0 hi hE h38
    obtain ⟨k, rfl⟩ : ∃ z, k = z + 1 := ⟨k - 1, by omega⟩
    by_cases hop : sg B e p1 = 124
    · have hpe : p1 < e := sg_cases 124 (by omega) hop
      have hK1 : KC (tpM M1 (p1 + 1) 0) B q e (p1 + 1) s1 0 := hK.tp hq
      obtain ⟨MA1, y1, y2, y3, y4, y5⟩ := k_add (x := 124) (v := 0) hq hK1 (by omega)
      have kfA : KF q s1 M1 MA1 := (KF.tp hq).tr y3 (Nat.le_refl _)
      obtain ⟨M2, f2, p2, s2, i1, i2, i3, i4, i5, i6, i7⟩ := hin MA1 (p1 + 1) (s1 + 1) y2 (by omega) (by omega)
      have kf : KF q s1 M1 M2 := kfA.tr i3 (by omega)
      have hcl : ∀ (W0 W1 : zM) w sR wR (Wa : zM) d, w + 2 ≤ 3 * o → tpo W0 w 13 → d ≤ 2 → (∀ k, f_X12_lands_0 54 1 (k + d) W1 = f_X12_lands_0 54 1 k Wa) → KR Wa B e p1 s1 w o → KX s w W0 Wa → KR W1 B e p1 sR wR o → f_X12_lands 54 (nI 1) W1 = some ((), Wa) := by
        intro W0 W1 w sR wR Wa d hw hM hd t7 t8 t9 t1
        exact land_end hd (fun k => t7 k) t8 (by omega) (hM.to t9 (Nat.le_refl _)) (by omega) (by omega) (Or.inr (by omega))
      rw [cl7_op hq hK he hp (by omega) hop, y1, z_call_eq, i1, z_call_eq, i2.t1, z_rd_eq]
      by_cases hf : f2 = 0
      · subst hf
        obtain ⟨a1, a2, a3, a4, a5⟩ := i6 rfl
        obtain ⟨M3, b1, b2, b3, b4, b5⟩ := k_lead (k := s1) hq i2 i5 (by omega)
        have kf3 : KF q s1 M1 M3 := kf.tr b3 (Nat.le_refl _)
        have hc1 : M3.1 (q + 1) s1 = 124 := by rw [b4, (i3.2.2.2.1 s1 (by omega)).1]; exact y4
        have hc2 : M3.1 (q + 2) s1 = nI s2 := by rw [b5, va_eq]
        have ex : CXs (M3.1 (q + 1)) (M3.1 (q + 2)) s s2 := by
          refine CXs.jmp (s1 := s1) (hE.cg (fun k _ hk => (kf3.2.2.2.1 k hk).1) (fun k _ hk => (kf3.2.2.2.1 k hk).2)) (a4.cg (fun k _ _ => by rw [b4]) (fun k hk _ => by rw [b5, va_ne (by omega)])) (Or.inr hc1) hc2
        obtain ⟨M', f, p', s', u1, u2, u3, u4, u5, u6, u7⟩ := ih k (i + 1) M3 p2 s2 s (by omega) (by omega) b2 a2 (by omega) (by omega) (by omega) ex a5
        refine ⟨M', f, p', s', ?_, u2, (kf3.mono hs0).tr u3 (Nat.le_refl _), by omega, u5, fun hz => ?_, ?_⟩
        · rw [b1, z_call_eq, u1]
        · obtain ⟨v1, v2, v3, v4, v5⟩ := u6 hz
          exact ⟨by omega, v2, by omega, v4, v5⟩
        · intro W0 W1 w n1 n2 hT hM hw hn hn2
          obtain ⟨sR, wR, Wa, d, t1, t2, t6, t7, t8, t9, t10⟩ := hT
          obtain ⟨n2, rfl⟩ : ∃ z, n2 = z + 1 := ⟨n2 - 1, by unfold zF at hn2; omega⟩
          obtain ⟨W2, x1, x2, x3, x4, x5⟩ := rc_jump (n := n2) (i := 1) (k := f_X12_readsCondition_40 54 n1) t1 he hp (by omega) hop (hcl W0 W1 w sR wR Wa d hw hM t6 t7 t8 t9 t1) t8 (by omega) (by omega)
          have htp2 : tpo W2 (w + 1) 12 := tpo.mk x4 (by omega) (by omega)
          have xa2 : KX s w W0 W2 := t9.tr x3 hs0 (Nat.le_refl _)
          obtain ⟨W3, n1', n2', g1, ⟨sR3, wR3, Wc, d3, c1, c2, c3, c4, c5, c6, c7⟩, g5, g6⟩ := (i7 W2 (w + 1) n1 x2 ⟨12, htp2, Or.inl rfl⟩ (by omega) (by omega)).2 rfl
          have g1' : f_X12_readsCondition_40 54 n1 W2 = f_X12_readsCondition_92 54 (f_X12_readsCondition_40 54 n1') n2' W3 := g1
          obtain ⟨W4, z1, z2, z3, z4⟩ := r_la1 (j := 12) (t := s1) c5 (by omega) (by omega) (Or.inr rfl) (by omega) ((c6.2.2.2.1 w (by omega)).trans x4) ((c6.2.2.1 s1 (by omega)).trans x5)
          have xa3 : KX s w W0 W3 := xa2.tr c2 (by omega) (by omega)
          have xac : KX s w W0 Wc := xa2.tr c6 (by omega) (by omega)
          have hT' : QSl B e q o s w W0 M3 p2 s2 W3 := by
            refine ⟨sR3, wR3, W4, d3 + 1, c1, xa3, by omega, fun k => by rw [show k + (d3 + 1) = (k + 1) + d3 by omega, c4 1 (k + 1), z1 1 k (Or.inr rfl)], z2, xac.tr z3 (by omega) (Nat.le_refl _), ?_⟩
            refine CDS.ap (s1 := s1) ?_ (CDS.ap (s1 := s1 + 1) (CDS.one ?_) ?_)
            · exact (t10.w (fun k hk => by rw [z4, va_ne (by omega), c6.2.2.1 k (by omega), x3.2.2.1 k hk])).m (fun k hk => kf3.2.2.2.1 k hk)
            · rw [z4, va_eq, hc1, hc2, enc_or, nI_add]
            · exact fun k hk1 hk => by rw [z4, va_ne (by omega), b4, b5, va_ne (by omega)]; exact c7 k hk1 hk
          obtain ⟨r1, r2⟩ := u7 W0 W3 w n1' n2' hT' hM hw (by omega) (by omega)
          rw [x1, g1']
          refine ⟨r1, fun hz => ?_⟩
          obtain ⟨W', n1'', n2'', q1, q2, q3, q4⟩ := r2 hz
          obtain ⟨v1, v2, v3, v4, v5⟩ := u6 hz
          exact ⟨W', n1'', n2'', q1, q2, by omega, q4⟩
      · obtain ⟨M3, b1, b2, b3⟩ := k_leadA (k := s1) hq i2 i5 (by omega)
        obtain ⟨k, rfl⟩ : ∃ z, k = z + 1 := ⟨k - 1, by omega⟩
        refine ⟨M3, f2, p2, s2, ?_, b2, (kf.tr b3 (Nat.le_refl _)).mono hs0, by omega, i5, fun hz => absurd hz hf, ?_⟩
        · rw [b1, z_call_eq, cl7_F b2 hf]
        · intro W0 W1 w n1 n2 hT hM hw hn hn2
          obtain ⟨sR, wR, Wa, d, t1, t2, t6, t7, t8, t9, t10⟩ := hT
          obtain ⟨n2, rfl⟩ : ∃ z, n2 = z + 1 := ⟨n2 - 1, by unfold zF at hn2; omega⟩
          obtain ⟨W2, x1, x2, x3, x4, x5⟩ := rc_jump (n := n2) (i := 1) (k := f_X12_readsCondition_40 54 n1) t1 he hp (by omega) hop (hcl W0 W1 w sR wR Wa d hw hM t6 t7 t8 t9 t1) t8 (by omega) (by omega)
          have htp2 : tpo W2 (w + 1) 12 := tpo.mk x4 (by omega) (by omega)
          have xa2 : KX s w W0 W2 := t9.tr x3 hs0 (Nat.le_refl _)
          obtain ⟨W3, g1, g2, g3⟩ := (i7 W2 (w + 1) n1 x2 ⟨12, htp2, Or.inl rfl⟩ (by omega) (by omega)).1 hf
          exact ⟨fun _ => ⟨W3, by rw [x1, g1], xa2.tr g2 (by omega) (by omega), g3⟩, fun hz => absurd hz hf⟩
    · refine ⟨M1, 0, p1, s1, cl7_st hK he hp hop, hK, KF.rf, Nat.le_refl _, by omega, fun _ => ⟨Nat.le_refl _, hp, by omega, hE, h38, hop⟩, ?_⟩
      intro W0 W1 w n1 n2 hT hM hw hn hn2
      exact ⟨fun hz => absurd rfl hz, fun _ => ⟨W1, n1, n2, rfl, hT, by omega, hn2⟩⟩
theorem PSl.q {B : Nat → Nat} {e q o s w : Nat} {W0 M : zM} {p1 s1 : Nat} {W1 : zM} (h : PSl B e q o s w W0 M p1 s1 W1) : QSl B e q o s w W0 M p1 s1 W1 := by
  obtain ⟨sR, wR, Wa, d, t1, t2, t6, t7, t8, t9, t10⟩ := h
  exact ⟨sR, wR, Wa, d, t1, t2, by omega, fun k => t7 1 k, t8, t9, t10⟩
theorem co_of {B : Nat → Nat} {e q o nd : Nat} (hq : LO q) (he : e ≤ 240) (ho : o ≤ 6) (ho1 : 1 ≤ o) (hin : PaL B e q o (gPa nd)) : CoL B e q o (gCn (nd + 1)) := by
  intro M p s hK hp hs
  obtain ⟨M1, f1, p1, s1, i1, i2, i3, i4, i5, i6, i7⟩ := hin M p s hK hp hs
  rw [gCn_eq, i1, z_call_eq]
  by_cases hf : f1 = 0
  · subst hf
    obtain ⟨a1, a2, a3, a4, a5⟩ := i6 rfl
    obtain ⟨M', f, p', s', u1, u2, u3, u4, u5, u6, u7⟩ := co_lp hq he ho ho1 hin (e - p1) zF 0 M1 p1 s1 s (Nat.le_refl _) (by unfold zF; omega) i2 a2 (by omega) i4 (by omega) a4 a5
    refine ⟨M', f, p', s', u1, u2, i3.tr u3 (Nat.le_refl _), by omega, u5, fun hz => ?_, ?_⟩
    · obtain ⟨v1, v2, v3, v4, v5⟩ := u6 hz
      exact ⟨by omega, v2, by omega, v4, v5⟩
    · intro W w n hR hM hw hn
      obtain ⟨W1, n1, n2, g1, g2, g5, g6⟩ := (i7 W w n hR ⟨13, hM, Or.inr rfl⟩ (by omega) hn).2 rfl
      obtain ⟨r1, r2⟩ := u7 W W1 w n1 n2 g2.q hM hw (by omega) g6
      rw [g1]
      refine ⟨r1, fun hz => ?_⟩
      obtain ⟨W', n1', n2', q1, ⟨sR, wR, Wa, d, t1, t2, t6, t7, t8, t9, t10⟩, q3, q4⟩ := r2 hz
      obtain ⟨v1, v2, v3, v4, v5⟩ := u6 hz
      exact ⟨W', n1', n2', sR, wR, Wa, d, q1, t1, t2, t6, t7, t8, t9, t10, by omega, q4⟩
  · refine ⟨M1, f1, p1, s1, ?_, i2, i3, i4, i5, fun hz => absurd hz hf, ?_⟩
    · rw [show zF = 999 + 1 from rfl]
      exact cl7_F (y := 0) i2 hf
    · intro W w n hR hM hw hn
      exact ⟨fun _ => (i7 W w n hR ⟨13, hM, Or.inr rfl⟩ (by omega) hn).1 hf, fun hz => absurd hz hf⟩
/-- conditions and tests at every depth -/
theorem co_all {B : Nat → Nat} {e q : Nat} (hq : LO q) (he : e ≤ 240) : ∀ d o nd, o + d = 6 → 1 ≤ o → 3 * d + 6 ≤ nd → CoL B e q o (gCn nd) ∧ TsL B e q o (gTs (nd - 2)) := by
  intro d
  induction d with
  | zero =>
    intro o nd ho ho1 hn
    obtain ⟨nd, rfl⟩ : ∃ z, nd = z + 1 + 1 + 1 := ⟨nd - 3, by omega⟩
    have hT : TsL B e q o (gTs (nd + 1)) := ts_of hq he (by omega) ho1 (fun h => by omega) (fun h => by omega) (am_all hq he 0 o nd (by omega) (by omega))
    exact ⟨co_of hq he (by omega) ho1 (pa_of hq he (by omega) ho1 hT), hT⟩
  | succ d ih =>
    intro o nd ho ho1 hn
    obtain ⟨nd, rfl⟩ : ∃ z, nd = z + 1 + 1 + 1 := ⟨nd - 3, by omega⟩
    have hT : TsL B e q o (gTs (nd + 1)) := by
      refine ts_of hq he (by omega) ho1 (fun h => ?_) (fun h => (ih (o + 1) nd (by omega) (by omega) (by omega)).1) (am_all hq he (d + 1) o nd (by omega) (by omega))
      have := (ih (o + 1) (nd + 2) (by omega) (by omega) (by omega)).2
      exact this
    exact ⟨co_of hq he (by omega) ho1 (pa_of hq he (by omega) ho1 hT), hT⟩
