/-! reading a law: terms -/
noncomputable def tl7 (n : Nat) (x : Int32) : Nat → Int32 → zM → Option (Unit × zM) := f_X5_readTerm_7 (g_X5 n).1 (g_X5 n).2.1 (g_X5 n).2.2.1 (g_X5 n).2.2.2.1 (g_X5 n).2.2.2.2.1 (g_X5 n).2.2.2.2.2 38 x
noncomputable def al7 (n : Nat) (x : Int32) : Nat → Int32 → zM → Option (Unit × zM) := f_X5_readAmount_7 (g_X5 n).1 (g_X5 n).2.1 (g_X5 n).2.2.1 (g_X5 n).2.2.2.1 (g_X5 n).2.2.2.2.1 (g_X5 n).2.2.2.2.2 38 x
theorem gTe_eq {n : Nat} {x : Int32} {M : zM} : gTe (n + 1) 38 x M = z_call (gFa n 38 x M) fun _ M_2 => tl7 n x zF 0 M_2 := rfl
theorem gAm_eq {n : Nat} {x : Int32} {M : zM} : gAm (n + 1) 38 x M = z_call (gTe n 38 x M) fun _ M_2 => al7 n x zF 0 M_2 := rfl
theorem tl7_F {M : zM} {B : Nat → Nat} {q e p s n k y : Nat} {f x : Int32} (h : KC M B q e p s f) (hf : f ≠ 0) : tl7 n x (k + 1) (nI y) M = some ((), M) := by
  show f_X5_readTerm_7 _ _ _ _ _ _ 38 x (k + 1) (nI y) M = _
  rw [f_X5_readTerm_7]
  by_cases h2 : (240 : Int32) ≤ nI y
  · rw [if_pos h2]
  · rw [if_neg h2, h.t0, z_rd_eq, h.sgF hf, z_call_eq, show f_X5_isTimes (-1) M = some (0, M) from rfl, z_call_eq, if_pos rfl]
theorem al7_F {M : zM} {B : Nat → Nat} {q e p s n k y : Nat} {f x : Int32} (h : KC M B q e p s f) (hf : f ≠ 0) : al7 n x (k + 1) (nI y) M = some ((), M) := by
  show f_X5_readAmount_7 _ _ _ _ _ _ 38 x (k + 1) (nI y) M = _
  rw [f_X5_readAmount_7]
  by_cases h2 : (240 : Int32) ≤ nI y
  · rw [if_pos h2]
  · rw [if_neg h2, h.t0, z_rd_eq, h.sgF hf, z_call_eq, if_neg (by decide), h.t0, z_rd_eq, h.sgF hf, z_call_eq, if_neg (by decide)]
theorem tl7_st {M : zM} {B : Nat → Nat} {q e p s n k y : Nat} {x : Int32} (h : KC M B q e p s 0) (he : e ≤ 240) (hp : p ≤ e) (ht : ∀ M, f_X5_isTimes (sg B e p) M = some (0, M)) : tl7 n x (k + 1) (nI y) M = some ((), M) := by
  show f_X5_readTerm_7 _ _ _ _ _ _ 38 x (k + 1) (nI y) M = _
  rw [f_X5_readTerm_7]
  by_cases h2 : (240 : Int32) ≤ nI y
  · rw [if_pos h2]
  · rw [if_neg h2, h.t0, z_rd_eq, h.sg he hp, z_call_eq, ht, z_call_eq, if_pos rfl]
theorem al7_st {M : zM} {B : Nat → Nat} {q e p s n k y : Nat} {x : Int32} (h : KC M B q e p s 0) (he : e ≤ 240) (hp : p ≤ e) (h1 : sg B e p ≠ 43) (h2 : sg B e p ≠ 45) : al7 n x (k + 1) (nI y) M = some ((), M) := by
  show f_X5_readAmount_7 _ _ _ _ _ _ 38 x (k + 1) (nI y) M = _
  rw [f_X5_readAmount_7]
  by_cases h3 : (240 : Int32) ≤ nI y
  · rw [if_pos h3]
  · rw [if_neg h3, h.t0, z_rd_eq, h.sg he hp, z_call_eq, if_neg h1, h.t0, z_rd_eq, h.sg he hp, z_call_eq, if_neg h2]
theorem tl7_op {M : zM} {B : Nat → Nat} {q e p s n k y : Nat} {x : Int32} (h : KC M B q e p s 0) (he : e ≤ 240) (hp : p ≤ e) (hy : y < 240) (ht : ∀ M, f_X5_isTimes (sg B e p) M = some (1, M)) : tl7 n x (k + 1) (nI y) M = z_call (gFa n 38 x (tpM M (p + 1) 0)) fun _ M_19 => z_rd (M_19.2.1 38 1) fun a_21 => z_call (f_X4_add a_21 (sg B e p) 0 M_19) fun _ M_23 => tl7 n x k (nI (y + 1)) M_23 := by
  show f_X5_readTerm_7 _ _ _ _ _ _ 38 x (k + 1) (nI y) M = _
  rw [f_X5_readTerm_7, if_neg (show ¬ (240 : Int32) ≤ nI y from nI_ge (b := 240) hy (by omega)), h.t0, z_rd_eq, h.sg he hp, z_call_eq, ht, z_call_eq, if_neg (by decide), h.t0, z_rd_eq, h.sg he hp, z_call_eq, h.t0, z_rd_eq, h.stp, z_call_eq]
  simp only [zl_eq, nI_1]
  rfl
theorem al7_op {M : zM} {B : Nat → Nat} {q e p s n k y : Nat} {x : Int32} (h : KC M B q e p s 0) (he : e ≤ 240) (hp : p ≤ e) (hy : y < 240) (ht : sg B e p = 43 ∨ sg B e p = 45) : al7 n x (k + 1) (nI y) M = z_call (gTe n 38 x (tpM M (p + 1) 0)) fun _ M_19 => z_rd (M_19.2.1 38 1) fun a_21 => z_call (f_X4_add a_21 (sg B e p) 0 M_19) fun _ M_23 => al7 n x k (nI (y + 1)) M_23 := by
  have h38 : f_X5_readAmount_38 (g_X5 n).1 (g_X5 n).2.1 (g_X5 n).2.2.1 (g_X5 n).2.2.2.1 (g_X5 n).2.2.2.2.1 (g_X5 n).2.2.2.2.2 38 x (al7 n x k) (nI y) M = z_call (gTe n 38 x (tpM M (p + 1) 0)) fun _ M_19 => z_rd (M_19.2.1 38 1) fun a_21 => z_call (f_X4_add a_21 (sg B e p) 0 M_19) fun _ M_23 => al7 n x k (nI (y + 1)) M_23 := by
    rw [f_X5_readAmount_38, h.t0, z_rd_eq, h.sg he hp, z_call_eq, h.t0, z_rd_eq, h.stp, z_call_eq]
    simp only [zl_eq, nI_1]
    rfl
  rw [← h38]
  show f_X5_readAmount_7 _ _ _ _ _ _ 38 x (k + 1) (nI y) M = _
  rw [f_X5_readAmount_7, if_neg (show ¬ (240 : Int32) ≤ nI y from nI_ge (b := 240) hy (by omega)), h.t0, z_rd_eq, h.sg he hp, z_call_eq]
  rcases ht with ht | ht
  · rw [if_pos ht]
    rfl
  · rw [if_neg (by rw [ht]; decide), h.t0, z_rd_eq, h.sg he hp, z_call_eq, if_pos ht]
    rfl
/-- the reference's loop behind factors: one sum may wait; closed, it stands at Wa -/
def TS (B : Nat → Nat) (e q o s w : Nat) (W0 M : zM) (p1 s1 : Nat) (W1 : zM) : Prop := ∃ sR wR Wa d, KR W1 B e p1 sR wR o ∧ KX s w W0 W1 ∧ w ≤ wR ∧ wR ≤ w + 1 ∧ SW W1 w wR ∧ d ≤ 1 ∧ (∀ x k, f_X12_closesSums_0 54 x (k + d) W1 = f_X12_closesSums_0 54 x k Wa) ∧ KR Wa B e p1 s1 w o ∧ KX s w W0 Wa ∧ CDS M q s s1 Wa
def TeL (B : Nat → Nat) (e q o : Nat) (cls : Nat → Int32 → zM → Option (Unit × zM)) : Prop := ∀ (M : zM) p s h, KC M B q e p s 0 → p ≤ e → s ≤ p → h ≤ 2 * o + 1 → ∃ M' f p' s', cls 38 (nI o) M = some ((), M') ∧ KC M' B q e p' s' f ∧ KF q s M M' ∧ s ≤ s' ∧ s' ≤ 240 ∧ (f = 0 → p < p' ∧ p' ≤ e ∧ s' + p ≤ p' + s ∧ EXs (M'.1 (q + 1)) (M'.1 (q + 2)) h s s' ∧ ∀ M, f_X5_isTimes (sg B e p') M = some (0, M)) ∧ ∀ (W : zM) w base m n, KR W B e p s w o → NM W w → w ≤ 5 * o + 21 → base ≤ w → e - p < m → e - p < n →
  (f ≠ 0 → ∃ W', RFx m n (nI base) W = some (0, W') ∧ KX s w W W' ∧ W'.1 54 7 = f) ∧
  (f = 0 → ∃ W' n', RFx m n (nI base) W = f_X12_readsSum_14 54 n' (nI base) W' ∧ TS B e q o s w W M' p' s' W' ∧ n ≤ n' + (p' - p))
theorem close_0 {W Wa : zM} {B : Nat → Nat} {e p s w o d : Nat} {x : Int32} (hd : d ≤ 2) (hc : ∀ k, f_X12_closesSums_0 54 x (k + d) W = f_X12_closesSums_0 54 x k Wa) (h : KR Wa B e p s w o) (hw : w ≤ 260) (hst : ∀ n, f_X12_closesSums_0 54 x (n + 1) Wa = some ((), Wa)) : f_X12_closesSums 54 x W = some ((), Wa) := by
  have := hc (zF - d)
  rw [show zF - d + d = zF by unfold zF; omega] at this
  rw [f_X12_closesSums, this, show zF - d = (zF - d - 1) + 1 by unfold zF; omega]
  exact hst _
theorem ars_lt {B : Nat → Nat} {e p i : Nat} (hi : i < 5) (h : sg B e p = ars i) : p < e := by
  have : ∃ x, x < 2 ^ 31 ∧ ars i = nI x := by
    rcases (show i = 0 ∨ i = 1 ∨ i = 2 ∨ i = 3 ∨ i = 4 by omega) with rfl | rfl | rfl | rfl | rfl
    · exact ⟨43, by omega, rfl⟩
    · exact ⟨45, by omega, rfl⟩
    · exact ⟨42, by omega, rfl⟩
    · exact ⟨47, by omega, rfl⟩
    · exact ⟨37, by omega, rfl⟩
  obtain ⟨x, x1, x2⟩ := this
  exact sg_cases x x1 (h.trans x2)
theorem tp_cell {M : zM} {q p : Nat} {f : Int32} (hq : LO q) : (tpM M p f).1 (q + 1) = M.1 (q + 1) ∧ (tpM M p f).1 (q + 2) = M.1 (q + 2) := ⟨tpM_o (by rcases hq with rfl | rfl <;> decide), tpM_o (by rcases hq with rfl | rfl <;> decide)⟩
theorem te_lp {B : Nat → Nat} {e q o nd : Nat} (hq : LO q) (he : e ≤ 240) (ho : o ≤ 6) (hfa : FaL B e q o (gFa nd)) : ∀ j k i (M1 : zM) p1 s1 s h, e - p1 ≤ j → j < k → KC M1 B q e p1 s1 0 → p1 ≤ e → s1 ≤ p1 → s ≤ s1 → i ≤ p1 → h ≤ 2 * o + 1 → EXs (M1.1 (q + 1)) (M1.1 (q + 2)) h s s1 → ∃ M' f p' s', tl7 nd (nI o) k (nI i) M1 = some ((), M') ∧ KC M' B q e p' s' f ∧ KF q s1 M1 M' ∧ s1 ≤ s' ∧ s' ≤ 240 ∧ (f = 0 → p1 ≤ p' ∧ p' ≤ e ∧ s' + p1 ≤ p' + s1 ∧ EXs (M'.1 (q + 1)) (M'.1 (q + 2)) h s s' ∧ ∀ M, f_X5_isTimes (sg B e p') M = some (0, M)) ∧ ∀ (W0 W1 : zM) w base n1, TS B e q o s w W0 M1 p1 s1 W1 → NM W0 w → w ≤ 5 * o + 21 → base ≤ w → e - p1 < n1 →
  (f ≠ 0 → ∃ W', f_X12_readsSum_14 54 n1 (nI base) W1 = some (0, W') ∧ KX s w W0 W' ∧ W'.1 54 7 = f) ∧
  (f = 0 → ∃ W' n', f_X12_readsSum_14 54 n1 (nI base) W1 = f_X12_readsSum_14 54 n' (nI base) W' ∧ TS B e q o s w W0 M' p' s' W' ∧ n1 ≤ n' + (p' - p1)) := by
  intro j
  induction j with
  | zero =>
    intro k i M1 p1 s1 s h hj hk hK hp hs hs0 hi hh hE
    obtain ⟨k, rfl⟩ : ∃ z, k = z + 1 := ⟨k - 1, by omega⟩
    have hsg : sg B e p1 = -1 := by unfold sg; rw [if_neg (by omega)]
    have ht : ∀ M, f_X5_isTimes (sg B e p1) M = some (0, M) := fun M => by rw [hsg]; rfl
    refine ⟨M1, 0, p1, s1, tl7_st hK he hp ht, hK, KF.rf, Nat.le_refl _, by omega, fun _ => ⟨Nat.le_refl _, hp, by omega, hE, ht⟩, ?_⟩
    intro W0 W1 w base n1 hT hM hw hb hn
    exact ⟨fun hz => absurd rfl hz, fun _ => ⟨W1, n1, rfl, hT, by omega⟩⟩
  | succ j ih =>
    intro k i M1 p1 s1 s h hj hk hK hp hs hs0 hi hh hE
    obtain ⟨k, rfl⟩ : ∃ z, k = z + 1 := ⟨k - 1, by omega⟩
    have stop : (∀ M, f_X5_isTimes (sg B e p1) M = some (0, M)) → ∃ M' f p' s', tl7 nd (nI o) (k + 1) (nI i) M1 = some ((), M') ∧ KC M' B q e p' s' f ∧ KF q s1 M1 M' ∧ s1 ≤ s' ∧ s' ≤ 240 ∧ (f = 0 → p1 ≤ p' ∧ p' ≤ e ∧ s' + p1 ≤ p' + s1 ∧ EXs (M'.1 (q + 1)) (M'.1 (q + 2)) h s s' ∧ ∀ M, f_X5_isTimes (sg B e p') M = some (0, M)) ∧ ∀ (W0 W1 : zM) w base n1, TS B e q o s w W0 M1 p1 s1 W1 → NM W0 w → w ≤ 5 * o + 21 → base ≤ w → e - p1 < n1 → (f ≠ 0 → ∃ W', f_X12_readsSum_14 54 n1 (nI base) W1 = some (0, W') ∧ KX s w W0 W' ∧ W'.1 54 7 = f) ∧ (f = 0 → ∃ W' n', f_X12_readsSum_14 54 n1 (nI base) W1 = f_X12_readsSum_14 54 n' (nI base) W' ∧ TS B e q o s w W0 M' p' s' W' ∧ n1 ≤ n' + (p' - p1)) := by
      intro ht
      refine ⟨M1, 0, p1, s1, tl7_st hK he hp ht, hK, KF.rf, Nat.le_refl _, by omega, fun _ => ⟨Nat.le_refl _, hp, by omega, hE, ht⟩, ?_⟩
      intro W0 W1 w base n1 hT hM hw hb hn
      exact ⟨fun hz => absurd rfl hz, fun _ => ⟨W1, n1, rfl, hT, by omega⟩⟩
    rcases sums (sg B e p1) with ⟨a, ha, hx, l1, l2⟩ | ⟨_, _, l2⟩
    · by_cases h2a : 2 ≤ a
      · have hpe : p1 < e := ars_lt ha hx
        have ht : ∀ M, f_X5_isTimes (sg B e p1) M = some (1, M) := fun M => by rw [l2, if_pos h2a]
        have hK1 : KC (tpM M1 (p1 + 1) 0) B q e (p1 + 1) s1 0 := hK.tp hq
        obtain ⟨c1, c2⟩ := tp_cell (M := M1) (p := p1 + 1) (f := 0) hq
        obtain ⟨M2, f2, p2, s2, i1, i2, i3, i4, i5, i6, i7⟩ := hfa (tpM M1 (p1 + 1) 0) (p1 + 1) s1 (h + 1) hK1 (by omega) (by omega) (by omega)
        have kf : KF q s1 M1 M2 := (KF.tp hq).tr i3 (Nat.le_refl _)
        rw [tl7_op hK he hp (by omega) ht, i1, z_call_eq, i2.t1, z_rd_eq]
        by_cases hf : f2 = 0
        · subst hf
          obtain ⟨a1, a2, a3, a4⟩ := i6 rfl
          obtain ⟨M3, b1, b2, b3, b4, b5⟩ := k_add (x := sg B e p1) (v := 0) hq i2 (by omega)
          have kf3 : KF q s1 M1 M3 := kf.tr b3 i4
          have ex : EXs (M3.1 (q + 1)) (M3.1 (q + 2)) h s (s2 + 1) := by
            refine EXs.op (s1 := s1) (hE.cg (fun k _ hk => (kf3.2.2.2.1 k hk).1) (fun k _ hk => (kf3.2.2.2.1 k hk).2)) (a4.cg (fun k _ hk => (b3.2.2.2.1 k hk).1) (fun k _ hk => (b3.2.2.2.1 k hk).2)) (by omega) ha (b4.trans hx)
          obtain ⟨M', f, p', s', u1, u2, u3, u4, u5, u6, u7⟩ := ih k (i + 1) M3 p2 (s2 + 1) s h (by omega) (by omega) b2 a2 (by omega) (by omega) (by omega) hh ex
          refine ⟨M', f, p', s', ?_, u2, kf3.tr u3 (by omega), by omega, u5, fun hz => ?_, ?_⟩
          · rw [b1, z_call_eq, u1]
          · obtain ⟨v1, v2, v3, v4, v5⟩ := u6 hz
            exact ⟨by omega, v2, by omega, v4, v5⟩
          · intro W0 W1 w base n1 hT hM hw hb hn
            obtain ⟨sR, wR, Wa, d, t1, t2, t3, t4, t5, t6, t7, t8, t9, t10⟩ := hT
            obtain ⟨n1, rfl⟩ : ∃ z, n1 = z + 1 := ⟨n1 - 1, by omega⟩
            have hcl : f_X12_closesSums 54 (if 2 ≤ a then 0 else 1) W1 = some ((), Wa) := by
              rw [if_pos h2a]
              exact close_0 (by omega) (fun k => t7 0 k) t8 (by omega) (fun n => r_stop0 t8 (by omega) (hM.to t9 (Nat.le_refl _)))
            obtain ⟨W2, x1, x2, x3, x4, x5⟩ := rs_op (n := n1) (b := nI base) t1 he hp ha l1 hcl t8 (by omega)
            obtain ⟨W3, n', y1, y2, y3, y4, y5⟩ := (i7 W2 (w + 1) base zF n1 x2 (by omega) (by omega) (by unfold zF; omega) (by omega)).2 rfl
            have e60 : W3.1 60 w = nI (1048576 * (2 + a)) := (y3.2.2.2.1 w (by omega)).trans x4
            obtain ⟨W4, z1, z2, z3, z4⟩ := r_close (j := 2 + a) y2 (by omega) (by omega) (tpo.mk0 e60 (by omega)) (by omega)
            have xa2 : KX s w W0 W2 := t9.tr x3 hs0 (Nat.le_refl _)
            have xa3 : KX s w W0 W3 := xa2.tr y3 hs0 (by omega)
            have hT' : TS B e q o s w W0 M3 p2 (s2 + 1) W3 := by
              refine ⟨s2, w + 1, W4, 1, y2, xa3, by omega, by omega, fun k k1 k2 => ⟨2 + a, by omega, by omega, ?_⟩, by omega, fun x k => z1 x k (Or.inl (by omega)), z2, xa3.tr z3 (by omega) (Nat.le_refl _), ?_⟩
              · obtain rfl : k = w := by omega
                exact e60
              · refine CDS.ap (s1 := s1) ?_ (CDS.ap (s1 := s2) ?_ (CDS.one ?_))
                · exact (t10.w (fun k hk => ((z3.2.2.1 k (by omega)).trans ((y3.2.2.1 k hk).trans (by rw [x5])))) ).m (fun k hk => kf3.2.2.2.1 k hk)
                · exact (y4.w (fun k hk => z3.2.2.1 k hk)).m (fun k hk => b3.2.2.2.1 k hk)
                · rw [z4, b4, b5, hx, enc_ar ha]
            obtain ⟨r1, r2⟩ := u7 W0 W3 w base n' hT' hM hw hb (by omega)
            rw [x1, y1]
            refine ⟨r1, fun hz => ?_⟩
            obtain ⟨W', n'', g1, g2, g3⟩ := r2 hz
            obtain ⟨v1, v2, v3, v4, v5⟩ := u6 hz
            exact ⟨W', n'', g1, g2, by omega⟩
        · obtain ⟨M3, s3, b1, b2, b3, b4, b5⟩ := k_addA (x := sg B e p1) (v := 0) hq i2 i5
          obtain ⟨k, rfl⟩ : ∃ z, k = z + 1 := ⟨k - 1, by omega⟩
          refine ⟨M3, f2, p2, s3, ?_, b2, kf.tr b3 i4, by omega, b5, fun hz => absurd hz hf, ?_⟩
          · rw [b1, z_call_eq, tl7_F b2 hf]
          · intro W0 W1 w base n1 hT hM hw hb hn
            obtain ⟨sR, wR, Wa, d, t1, t2, t3, t4, t5, t6, t7, t8, t9, t10⟩ := hT
            obtain ⟨n1, rfl⟩ : ∃ z, n1 = z + 1 := ⟨n1 - 1, by omega⟩
            have hcl : f_X12_closesSums 54 (if 2 ≤ a then 0 else 1) W1 = some ((), Wa) := by
              rw [if_pos h2a]
              exact close_0 (by omega) (fun k => t7 0 k) t8 (by omega) (fun n => r_stop0 t8 (by omega) (hM.to t9 (Nat.le_refl _)))
            obtain ⟨W2, x1, x2, x3, x4, x5⟩ := rs_op (n := n1) (b := nI base) t1 he hp ha l1 hcl t8 (by omega)
            obtain ⟨W3, y1, y2, y3⟩ := (i7 W2 (w + 1) base zF n1 x2 (by omega) (by omega) (by unfold zF; omega) (by omega)).1 hf
            refine ⟨fun _ => ⟨W3, by rw [x1, y1], (t9.tr x3 hs0 (Nat.le_refl _)).tr y2 hs0 (by omega), y3⟩, fun hz => absurd hz hf⟩
      · exact stop (fun M => by rw [l2, if_neg h2a])
    · exact stop l2
theorem te_of {B : Nat → Nat} {e q o nd : Nat} (hq : LO q) (he : e ≤ 240) (ho : o ≤ 6) (hfa : FaL B e q o (gFa nd)) : TeL B e q o (gTe (nd + 1)) := by
  intro M p s h hK hp hs hh
  obtain ⟨M1, f1, p1, s1, i1, i2, i3, i4, i5, i6, i7⟩ := hfa M p s h hK hp hs (by omega)
  rw [gTe_eq, i1, z_call_eq]
  by_cases hf : f1 = 0
  · subst hf
    obtain ⟨a1, a2, a3, a4⟩ := i6 rfl
    obtain ⟨M', f, p', s', u1, u2, u3, u4, u5, u6, u7⟩ := te_lp hq he ho hfa (e - p1) zF 0 M1 p1 s1 s h (Nat.le_refl _) (by unfold zF; omega) i2 a2 (by omega) i4 (by omega) hh a4
    refine ⟨M', f, p', s', u1, u2, i3.tr u3 i4, by omega, u5, fun hz => ?_, ?_⟩
    · obtain ⟨v1, v2, v3, v4, v5⟩ := u6 hz
      exact ⟨by omega, v2, by omega, v4, v5⟩
    · intro W w base m n hR hM hw hb hm hn
      obtain ⟨W1, n', y1, y2, y3, y4, y5⟩ := (i7 W w base m n hR (by omega) hb hm hn).2 rfl
      have hT : TS B e q o s w W M1 p1 s1 W1 := ⟨s1, w, W1, 0, y2, y3, Nat.le_refl _, by omega, fun k k1 k2 => by omega, by omega, fun x k => rfl, y2, y3, y4⟩
      obtain ⟨r1, r2⟩ := u7 W W1 w base n' hT hM hw hb (by omega)
      rw [y1]
      refine ⟨r1, fun hz => ?_⟩
      obtain ⟨W', n'', g1, g2, g3⟩ := r2 hz
      obtain ⟨v1, v2, v3, v4, v5⟩ := u6 hz
      exact ⟨W', n'', g1, g2, by omega⟩
  · refine ⟨M1, f1, p1, s1, ?_, i2, i3, i4, i5, fun hz => absurd hz hf, ?_⟩
    · rw [show zF = 999 + 1 from rfl]
      exact tl7_F (y := 0) i2 hf
    · intro W w base m n hR hM hw hb hm hn
      exact ⟨fun _ => (i7 W w base m n hR (by omega) hb hm hn).1 hf, fun hz => absurd hz hf⟩
