/-! reading a law: the whole text -/
noncomputable def Lz (n : Nat) (W : zM) : Option (Int32 × zM) := z_call (f_X12_readsRule 54 W) (fun v W1 => f_X12_law_31 54 n v W1)
theorem rd14_F {M : zM} {B : Nat → Nat} {q e p s k y : Nat} {f : Int32} (h : KC M B q e p s f) (hf : f ≠ 0) (hy : y ≤ 16) : f_X5_read_14 38 (k + 1) (nI y) M = some ((), M) := by
  rw [f_X5_read_14, if_neg (show ¬ (16 : Int32) < nI y from nI_nlt (a := 16) hy (by omega)), f_X5_readRule, h.t0, z_rd_eq, h.sgF hf, z_call_eq, if_neg (by decide), if_neg (by decide), if_neg (by decide), if_neg (by decide), h.t0, z_rd_eq, z_rd_eq, h.flF hf, z_call_eq, z_call_eq, h.t0, z_rd_eq, c_isOverF h.2.2.1 hf, z_call_eq, if_neg (by decide)]
theorem law31_0 {W : zM} {n : Nat} : f_X12_law_31 54 (n + 1) 0 W = f_X12_law_71 54 0 W := by
  rw [f_X12_law_31, if_pos rfl]
theorem lw_lp {B : Nat → Nat} {e q : Nat} (hq : LO q) (he : e ≤ 240) : ∀ m k n (M : zM) p s r, r + m = 17 → 1 ≤ m → m < k → m < n → KC M B q e p s 0 → p ≤ e → s ≤ p → RSc M q r s → ∃ M' f p' s' r', f_X5_read_14 38 k (nI r) M = some ((), M') ∧ KC M' B q e p' s' f ∧ KG q M M' ∧ (f = 0 → s' ≤ p' ∧ p' ≤ e ∧ r' ≤ 16 ∧ RSc M' q r' s') ∧ ∀ W, ST W → TB W B → MR W e p → W.1 54 10 = nI s → RSm M W q r s →
  (f ≠ 0 → ∃ W', Lz n W = f_X12_law_71 54 0 W' ∧ RX W W' ∧ W'.1 54 7 = f) ∧
  (f = 0 → ∃ W', Lz n W = f_X12_law_71 54 1 W' ∧ RX W W' ∧ W'.1 54 10 = nI s' ∧ RSm M' W' q r' s') := by
  intro m
  induction m with
  | zero => intro k n M p s r _ h1; omega
  | succ m ih =>
    intro k n M p s r hm hm1 hk hn hK hp hs hR
    obtain ⟨k, rfl⟩ : ∃ z, k = z + 1 := ⟨k - 1, by omega⟩
    obtain ⟨n, rfl⟩ : ∃ z, n = z + 1 := ⟨n - 1, by omega⟩
    obtain ⟨M3, f3, p3, s3, i1, i2, i3, i4, i5⟩ := ru_step hq he M p s r hK hp hs hR (by omega)
    rw [f_X5_read_14, if_neg (show ¬ (16 : Int32) < nI r from nI_nlt (a := 16) (by omega) (by omega)), i1, z_call_eq, i2.t0, z_rd_eq]
    by_cases hf : f3 = 0
    · subst hf
      obtain ⟨a1, a2, a3, a4, a5⟩ := i4 rfl
      rw [c_isOver i2.2.2.1 (by omega) (by omega), z_call_eq]
      by_cases hpe : p3 < e
      · have e59 : f_X10_expect 1 59 M3 = some ((), if sg B e p3 = nI 59 then tpM M3 (p3 + 1) 0 else tpM M3 p3 (flt 1 p3)) := k_expect (w := 59) i2 he a3
        rw [if_pos hpe, if_pos rfl, i2.t0, z_rd_eq, e59, z_call_eq, zl_eq, nI_1]
        have t31 : ∀ W', ST W' → TB W' B → MR W' e p3 → f_X12_law_31 54 (n + 1) 1 W' = z_call (f_X12_takes 54 59 W') fun v_3 M_4 => (if v_3 = 0 then f_X12_law_31 54 n 0 M_4 else z_call (f_X12_readsRule 54 M_4) fun v_7 M_8 => (if v_7 = 0 then f_X12_law_31 54 n 0 M_8 else f_X12_law_31 54 n 1 M_8)) := by
          intro W' w1 w2 w3
          rw [f_X12_law_31, if_neg (by decide), w3.1, w3.2, if_neg (nI_ge hpe (by omega))]
          rfl
        by_cases h59 : sg B e p3 = 59
        · have kt : KF q s3 M3 (tpM M3 (p3 + 1) 0) := KF.tp hq
          have hK4 : KC (tpM M3 (p3 + 1) 0) B q e (p3 + 1) s3 0 := i2.tp hq
          have hR4 : RSc (tpM M3 (p3 + 1) 0) q (r + 1) s3 := ⟨(kt.2.2.1 7 (by decide)).trans a5.1, fun j hj => (a5.2 j hj).kf hq (Nat.le_refl _) (Nat.le_refl _) kt⟩
          obtain ⟨M', f, p', s', r', j1, j2, j3, j4, j5⟩ := ih k n (tpM M3 (p3 + 1) 0) (p3 + 1) s3 (r + 1) (by omega) (by omega) (by omega) (by omega) hK4 (by omega) (by omega) hR4
          obtain ⟨Mx, fx, px, sx, x1, x2, x3, x4, x5⟩ := ru_step hq he (tpM M3 (p3 + 1) 0) (p3 + 1) s3 (r + 1) hK4 (by omega) (by omega) hR4 (by omega)
          rw [if_pos (show sg B e p3 = nI 59 from h59)]
          refine ⟨M', f, p', s', r', j1, j2, (i3.tr kt.g).tr j3, j4, ?_⟩
          intro W w1 w2 w3 w4 hM
          obtain ⟨W1, b1, b2, b3, b4, b5⟩ := (i5 W w1 w2 w3 w4 hM).2 rfl
          have s1 := b2.st w1
          have tb1 := b2.tb w2
          obtain ⟨W2, d2⟩ : ∃ W2 : zM, W2 = (zu W1.1 54 5 (nI (p3 + 1)), W1.2) := ⟨_, rfl⟩
          have x12 : RX W1 W2 := by rw [d2]; exact RX.s (by simp)
          have e2 : ∀ i, i ≠ 5 → W2.1 54 i = W1.1 54 i := fun i hi => by rw [d2]; exact zpn hi
          have c2 : ∀ c, c ≠ 54 → W2.1 c = W1.1 c := fun c hc => by rw [d2]; exact zpc hc
          have htk : f_X12_takes 54 59 W1 = some (1, W2) := by
            rw [f_X12_takes, m_here s1 tb1 b3 (by omega) (by omega), z_call_eq, if_pos h59, b3.1, nI_1, zl_eq, ← d2]
          have mr2 : MR W2 e (p3 + 1) := ⟨by rw [d2]; exact zps, (e2 6 (by decide)).trans b3.2⟩
          have hm2 : RSm (tpM M3 (p3 + 1) 0) W2 q (r + 1) s3 := by
            have hq2 : 20 < q ∧ q < 30 := by rcases hq with rfl | rfl <;> omega
            refine ⟨(b5.1.w (fun k _ => by rw [c2 59 (by decide)])).m (fun k hk => kt.2.2.2.1 k hk), fun j hj => ?_, (e2 12 (by decide)).trans b5.2.2⟩
            obtain ⟨n1, n2, n3, n4⟩ := b5.2.1 j hj
            rw [c2 61 (by decide), c2 62 (by decide), c2 63 (by decide), c2 64 (by decide), n1, n2, n3, n4, kt.1 (q + 3) (by omega) (by omega) (by omega) (by omega), kt.1 (q + 4) (by omega) (by omega) (by omega) (by omega), kt.1 (q + 5) (by omega) (by omega) (by omega) (by omega), kt.1 (q + 6) (by omega) (by omega) (by omega) (by omega)]
            exact ⟨rfl, rfl, rfl, rfl⟩
          have s2 := x12.st s1
          have tb2 := x12.tb tb1
          have w42 : W2.1 54 10 = nI s3 := (e2 10 (by decide)).trans b4
          have hLz : Lz (n + 1) W = Lz n W2 := by
            unfold Lz
            rw [b1, z_call_eq, t31 W1 s1 tb1 b3, htk, z_call_eq, if_neg (by decide)]
            obtain ⟨y1, y2⟩ := x5 W2 s2 tb2 mr2 w42 hm2
            by_cases hfx : fx = 0
            · obtain ⟨Wx, v1, _⟩ := y2 hfx
              rw [v1, z_call_eq, z_call_eq, if_neg (by decide)]
            · obtain ⟨Wx, v1, _⟩ := y1 hfx
              rw [v1, z_call_eq, z_call_eq, if_pos rfl]
          obtain ⟨r1, r2⟩ := j5 W2 s2 tb2 mr2 w42 hm2
          rw [hLz]
          refine ⟨fun hz => ?_, fun hz => ?_⟩
          · obtain ⟨W', g1, g2, g3⟩ := r1 hz
            exact ⟨W', g1, (b2.tr x12).tr g2, g3⟩
          · obtain ⟨W', g1, g2, g3⟩ := r2 hz
            exact ⟨W', g1, (b2.tr x12).tr g2, g3⟩
        · have hnz : flt 1 p3 ≠ 0 := flt_nz (by omega) (by omega) (by omega)
          have hK4 : KC (tpM M3 p3 (flt 1 p3)) B q e p3 s3 (flt 1 p3) := i2.tp hq
          obtain ⟨k, rfl⟩ : ∃ z, k = z + 1 := ⟨k - 1, by omega⟩
          obtain ⟨n, rfl⟩ : ∃ z, n = z + 1 := ⟨n - 1, by omega⟩
          rw [if_neg (show ¬ sg B e p3 = nI 59 from h59), rd14_F hK4 hnz (by omega)]
          refine ⟨tpM M3 p3 (flt 1 p3), flt 1 p3, p3, s3, 0, rfl, hK4, i3.tr (KF.tp (s := s3) hq).g, fun hz => absurd hz hnz, ?_⟩
          intro W w1 w2 w3 w4 hM
          refine ⟨fun _ => ?_, fun hz => absurd hz hnz⟩
          obtain ⟨W1, b1, b2, b3, b4, b5⟩ := (i5 W w1 w2 w3 w4 hM).2 rfl
          have s1 := b2.st w1
          have tb1 := b2.tb w2
          refine ⟨(zu W1.1 54 7 (flt 1 p3), W1.2), ?_, b2.tr (RX.s (by simp)), zps⟩
          have htk : f_X12_takes 54 59 W1 = some (0, (zu W1.1 54 7 (flt 1 p3), W1.2)) := by
            rw [f_X12_takes, m_here s1 tb1 b3 (by omega) (by omega), z_call_eq, if_neg h59, b3.1, show (1 : Int32) = nI 1 from rfl, m_wrN, z_call_eq, if_pos (Or.inl rfl)]
          unfold Lz
          rw [b1, z_call_eq, t31 W1 s1 tb1 b3, htk, z_call_eq, if_pos rfl, law31_0]
      · obtain rfl : p3 = e := by omega
        rw [if_neg hpe, if_neg (by decide)]
        refine ⟨M3, 0, p3, s3, r + 1, rfl, i2, i3, fun _ => ⟨a4, Nat.le_refl _, by omega, a5⟩, ?_⟩
        intro W w1 w2 w3 w4 hM
        refine ⟨fun hz => absurd rfl hz, fun _ => ?_⟩
        obtain ⟨W1, b1, b2, b3, b4, b5⟩ := (i5 W w1 w2 w3 w4 hM).2 rfl
        refine ⟨W1, ?_, b2, b4, b5⟩
        unfold Lz
        rw [b1, z_call_eq, f_X12_law_31, if_neg (by decide), b3.1, b3.2, if_pos (nI_le (Nat.le_refl _) (by omega))]
    · rw [c_isOverF i2.2.2.1 hf, z_call_eq, if_neg (by decide)]
      refine ⟨M3, f3, p3, s3, 0, rfl, i2, i3, fun hz => absurd hz hf, ?_⟩
      intro W w1 w2 w3 w4 hM
      refine ⟨fun _ => ?_, fun hz => absurd hz hf⟩
      obtain ⟨W1, b1, b2, b3⟩ := (i5 W w1 w2 w3 w4 hM).1 hf
      refine ⟨W1, ?_, b2, b3⟩
      unfold Lz
      rw [b1, z_call_eq, law31_0]
/-- the reference takes the law over -/
theorem m_123 {r : Nat} (hr : r ≤ 16) {S T : zM} : ∀ m n i (W : zM), i + m = r → m < n → ST W → W.1 54 12 = nI r → Fr [66, 67, 68, 69] S W → (∀ j, j < i → W.1 66 j = S.1 61 j ∧ W.1 67 j = S.1 62 j ∧ W.1 68 j = S.1 63 j ∧ W.1 69 j = S.1 64 j) → ∃ W', f_X12_law_123 54 n (nI i) W = some (nI r, W') ∧ Fr [66, 67, 68, 69] S W' ∧ (∀ j, j < r → W'.1 66 j = S.1 61 j ∧ W'.1 67 j = S.1 62 j ∧ W'.1 68 j = S.1 63 j ∧ W'.1 69 j = S.1 64 j) := by
  intro m
  induction m with
  | zero =>
    intro n i W hi hn hS h12 hF hc
    obtain ⟨n, rfl⟩ : ∃ z, n = z + 1 := ⟨n - 1, by omega⟩
    obtain rfl : i = r := by omega
    exact ⟨W, by rw [f_X12_law_123, h12, if_pos (nI_le (Nat.le_refl _) (by omega))], hF, hc⟩
  | succ m ih =>
    intro n i W hi hn hS h12 hF hc
    obtain ⟨n, rfl⟩ : ∃ z, n = z + 1 := ⟨n - 1, by omega⟩
    obtain ⟨W1, d1⟩ : ∃ W1 : zM, W1 = (zu W.1 66 i (W.1 61 i), W.2) := ⟨_, rfl⟩
    obtain ⟨W2, d2⟩ : ∃ W2 : zM, W2 = (zu W1.1 67 i (W1.1 62 i), W1.2) := ⟨_, rfl⟩
    obtain ⟨W3, d3⟩ : ∃ W3 : zM, W3 = (zu W2.1 68 i (W2.1 63 i), W2.2) := ⟨_, rfl⟩
    obtain ⟨W4, d4⟩ : ∃ W4 : zM, W4 = (zu W3.1 69 i (W3.1 64 i), W3.2) := ⟨_, rfl⟩
    have c1 : ∀ c, c ≠ 66 → W1.1 c = W.1 c := fun c hc => by rw [d1]; exact zpc hc
    have c2 : ∀ c, c ≠ 67 → W2.1 c = W1.1 c := fun c hc => by rw [d2]; exact zpc hc
    have c3 : ∀ c, c ≠ 68 → W3.1 c = W2.1 c := fun c hc => by rw [d3]; exact zpc hc
    have c4 : ∀ c, c ≠ 69 → W4.1 c = W3.1 c := fun c hc => by rw [d4]; exact zpc hc
    have f1 : Fr [66, 67, 68, 69] S W1 := hF.tr (by rw [d1]; exact Fr.zu (by simp))
    have f2 : Fr [66, 67, 68, 69] S W2 := f1.tr (by rw [d2]; exact Fr.zu (by simp))
    have f3 : Fr [66, 67, 68, 69] S W3 := f2.tr (by rw [d3]; exact Fr.zu (by simp))
    have f4 : Fr [66, 67, 68, 69] S W4 := f3.tr (by rw [d4]; exact Fr.zu (by simp))
    have sw : ∀ {X : zM}, Fr [66, 67, 68, 69] S X → ST X := fun h => hS.to (by rw [h.2, hF.2])
    have s1 := sw f1
    have s2 := sw f2
    have s3 := sw f3
    have s4 := sw f4
    have g66 : W4.1 66 = va_up (W.1 66) i (W.1 61 i) := by
      rw [c4 66 (by decide), c3 66 (by decide), c2 66 (by decide), d1]
      show zu W.1 66 i (W.1 61 i) 66 = _
      rw [zu_self]
    have g67 : W4.1 67 = va_up (W.1 67) i (W.1 62 i) := by
      rw [c4 67 (by decide), c3 67 (by decide), d2]
      show zu W1.1 67 i (W1.1 62 i) 67 = _
      rw [zu_self, c1 67 (by decide), c1 62 (by decide)]
    have g68 : W4.1 68 = va_up (W.1 68) i (W.1 63 i) := by
      rw [c4 68 (by decide), d3]
      show zu W2.1 68 i (W2.1 63 i) 68 = _
      rw [zu_self, c2 68 (by decide), c1 68 (by decide), c2 63 (by decide), c1 63 (by decide)]
    have g69 : W4.1 69 = va_up (W.1 69) i (W.1 64 i) := by
      rw [d4]
      show zu W3.1 69 i (W3.1 64 i) 69 = _
      rw [zu_self, c3 69 (by decide), c2 69 (by decide), c1 69 (by decide), c3 64 (by decide), c2 64 (by decide), c1 64 (by decide)]
    obtain ⟨W', i1, i2, i3⟩ := ih n (i + 1) W4 (by omega) (by omega) s4 (by rw [c4 54 (by decide), c3 54 (by decide), c2 54 (by decide), c1 54 (by decide)]; exact h12) f4 (fun j hj => by
      rw [g66, g67, g68, g69]
      by_cases hji : j = i
      · rw [hji, va_eq, va_eq, va_eq, va_eq, hF.c (c := 61) (by decide), hF.c (c := 62) (by decide), hF.c (c := 63) (by decide), hF.c (c := 64) (by decide)]
        exact ⟨rfl, rfl, rfl, rfl⟩
      · rw [va_ne hji, va_ne hji, va_ne hji, va_ne hji]
        exact hc j (by omega))
    refine ⟨W', ?_, i2, i3⟩
    rw [f_X12_law_123, h12, if_neg (nI_ge (by omega) (by omega)), (ST.a hS (o := 54) (k := 21) (a := 66) (by decide)), z_rd_eq, (ST.a hS (o := 54) (k := 16) (a := 61) (by decide)), z_rd_eq, ln61, if_pos (by rw [z_ixN (by omega)]; omega), ln66, if_pos (by rw [z_ixN (by omega)]; omega), nI_clamp (by omega), zl_eq, ← d1, (ST.a s1 (o := 54) (k := 22) (a := 67) (by decide)), z_rd_eq, (ST.a s1 (o := 54) (k := 17) (a := 62) (by decide)), z_rd_eq, ln62, if_pos (by rw [z_ixN (by omega)]; omega), ln67, if_pos (by rw [z_ixN (by omega)]; omega), zl_eq, ← d2, (ST.a s2 (o := 54) (k := 23) (a := 68) (by decide)), z_rd_eq, (ST.a s2 (o := 54) (k := 18) (a := 63) (by decide)), z_rd_eq, ln63, if_pos (by rw [z_ixN (by omega)]; omega), ln68, if_pos (by rw [z_ixN (by omega)]; omega), zl_eq, ← d3, (ST.a s3 (o := 54) (k := 24) (a := 69) (by decide)), z_rd_eq, (ST.a s3 (o := 54) (k := 19) (a := 64) (by decide)), z_rd_eq, ln64, if_pos (by rw [z_ixN (by omega)]; omega), ln69, if_pos (by rw [z_ixN (by omega)]; omega), zl_eq, ← d4, zl_eq, nI_1]
    exact i1
theorem m_95 {s : Nat} (hs : s ≤ 240) {S : zM} : ∀ m n i (W : zM), i + m = s → m < n → ST W → W.1 54 10 = nI s → Fr [65] S W → (∀ j, j < i → W.1 65 j = S.1 59 j) → ∃ W', f_X12_law_95 54 n (nI i) W = f_X12_law_123 54 zF 0 W' ∧ Fr [65] S W' ∧ (∀ j, j < s → W'.1 65 j = S.1 59 j) := by
  intro m
  induction m with
  | zero =>
    intro n i W hi hn hS h10 hF hc
    obtain ⟨n, rfl⟩ : ∃ z, n = z + 1 := ⟨n - 1, by omega⟩
    obtain rfl : i = s := by omega
    exact ⟨W, by rw [f_X12_law_95, h10, if_pos (nI_le (Nat.le_refl _) (by omega))], hF, hc⟩
  | succ m ih =>
    intro n i W hi hn hS h10 hF hc
    obtain ⟨n, rfl⟩ : ∃ z, n = z + 1 := ⟨n - 1, by omega⟩
    obtain ⟨W1, d1⟩ : ∃ W1 : zM, W1 = (zu W.1 65 i (W.1 59 i), W.2) := ⟨_, rfl⟩
    have f1 : Fr [65] S W1 := hF.tr (by rw [d1]; exact Fr.zu (by simp))
    have g65 : W1.1 65 = va_up (W.1 65) i (W.1 59 i) := by
      rw [d1]
      show zu W.1 65 i (W.1 59 i) 65 = _
      rw [zu_self]
    obtain ⟨W', i1, i2, i3⟩ := ih n (i + 1) W1 (by omega) (by omega) (hS.to (by rw [f1.2, hF.2])) (by rw [d1]; exact (by show zu W.1 65 i (W.1 59 i) 54 10 = _; rw [zu_cell _ _ _ (by decide)]; exact h10)) f1 (fun j hj => by
      rw [g65]
      by_cases hji : j = i
      · rw [hji, va_eq, hF.c (c := 59) (by decide)]
      · rw [va_ne hji]; exact hc j (by omega))
    refine ⟨W', ?_, i2, i3⟩
    rw [f_X12_law_95, h10, if_neg (nI_ge (by omega) (by omega)), (ST.a hS (o := 54) (k := 20) (a := 65) (by decide)), z_rd_eq, (ST.a hS (o := 54) (k := 14) (a := 59) (by decide)), z_rd_eq, ln59, if_pos (by rw [z_ixN (by omega)]; omega), ln65, if_pos (by rw [z_ixN (by omega)]; omega), nI_clamp (by omega), zl_eq, ← d1, zl_eq, nI_1]
    exact i1
