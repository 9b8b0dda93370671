/-! reading a law: rules one after the other -/
theorem ru_step {B : Nat → Nat} {e q : Nat} (hq : LO q) (he : e ≤ 240) (M : zM) (p s r : Nat) (hK : KC M B q e p s 0) (hp : p ≤ e) (hs : s ≤ p) (hR : RSc M q r s) (hr : r ≤ 16) : ∃ M' f p' s', f_X5_readRule 38 M = some ((), M') ∧ KC M' B q e p' s' f ∧ KG q M M' ∧ (f = 0 → r < 16 ∧ p < p' ∧ p' ≤ e ∧ s' ≤ p' ∧ RSc M' q (r + 1) s') ∧ ∀ W, ST W → TB W B → MR W e p → W.1 54 10 = nI s → RSm M W q r s →
  (f ≠ 0 → ∃ W', f_X12_readsRule 54 W = some (0, W') ∧ RX W W' ∧ W'.1 54 7 = f) ∧
  (f = 0 → ∃ W', f_X12_readsRule 54 W = some (1, W') ∧ RX W W' ∧ MR W' e p' ∧ W'.1 54 10 = nI s' ∧ RSm M' W' q (r + 1) s') := by
  have hq2 : 20 < q ∧ q < 30 := by rcases hq with rfl | rfl <;> omega
  obtain ⟨h7, hU⟩ := hR
  by_cases hk : sg B e p = 99 ∨ sg B e p = 107 ∨ sg B e p = 100 ∨ sg B e p = 120
  · have hpe : p < e := by
      rcases hk with h | h | h | h
      · exact sg_cases 99 (by omega) h
      · exact sg_cases 107 (by omega) h
      · exact sg_cases 100 (by omega) h
      · exact sg_cases 120 (by omega) h
    have hc0 : f_X5_readRule 38 M = f_X5_readRule_48 38 (sg B e p) M := by
      rw [f_X5_readRule, hK.t0, z_rd_eq, hK.sg he hp, z_call_eq]
      rcases hk with h | h | h | h
      · rw [if_pos h]
      · rw [if_neg (by rw [h]; decide), if_pos h]
      · rw [if_neg (by rw [h]; decide), if_neg (by rw [h]; decide), if_pos h]
      · rw [if_neg (by rw [h]; decide), if_neg (by rw [h]; decide), if_neg (by rw [h]; decide), if_pos h]
    have hm0 : ∀ W, ST W → TB W B → MR W e p → f_X12_readsRule 54 W = f_X12_readsRule_39 54 (sg B e p) W := by
      intro W w1 w2 w3
      rw [f_X12_readsRule, m_here w1 w2 w3 (by omega) (by omega), z_call_eq]
      rcases hk with h | h | h | h
      · rw [if_pos h]
      · rw [if_neg (by rw [h]; decide), if_pos h]
      · rw [if_neg (by rw [h]; decide), if_neg (by rw [h]; decide), if_pos h]
      · rw [if_neg (by rw [h]; decide), if_neg (by rw [h]; decide), if_neg (by rw [h]; decide), if_pos h]
    rw [hc0, f_X5_readRule_48, hK.t1, z_rd_eq, h7]
    by_cases hr16 : r = 16
    · have hnz : flt 4 p ≠ 0 := flt_nz (by omega) (by omega) (by omega)
      rw [if_pos (by rw [hr16]; rfl), hK.t0, z_rd_eq, z_rd_eq, show (4 : Int32) = nI 4 from rfl, hK.fl, z_call_eq]
      refine ⟨tpM M p (flt 4 p), flt 4 p, p, s, rfl, hK.tp hq, (KF.tp (s := s) hq).g, fun hz => absurd hz hnz, ?_⟩
      intro W w1 w2 w3 w4 hm
      refine ⟨fun _ => ?_, fun hz => absurd hz hnz⟩
      refine ⟨(zu W.1 54 7 (flt 4 p), W.2), ?_, RX.s (by simp), zps⟩
      rw [hm0 W w1 w2 w3, f_X12_readsRule_39, hm.2.2, if_pos (by rw [hr16]; rfl), w3.1, show (4 : Int32) = nI 4 from rfl, m_wrN, z_call_eq, if_pos (Or.inl rfl)]
    · have hr' : r < 16 := by omega
      have hK1 : KC (tpM M (p + 1) 0) B q e (p + 1) s 0 := hK.tp hq
      have kt : KF q s M (tpM M (p + 1) 0) := KF.tp hq
      have h71 : (tpM M (p + 1) 0).1 q 7 = nI r := (kt.2.2.1 7 (by decide)).trans h7
      rw [if_neg (show ¬ nI r = (16 : Int32) from fun hh => by have := (nI_eq (b := 16) (by omega) (by omega)).mp hh; omega), hK.t0, z_rd_eq, hK.stp, z_call_eq, hK1.t1, z_rd_eq, zl_eq, hK1.2.2.2.1]
      have start : ∀ W, ST W → TB W B → MR W e p → W.1 54 10 = nI s → RSm M W q r s → ∃ W1, f_X12_readsRule 54 W = (if sg B e p = 120 then (f_X12_readsRule_116 54 W1) else z_call (f_X12_readsSum 54 W1) fun v_12 M_13 => (if v_12 = 0 then some (0, M_13) else (f_X12_readsRule_116 54 M_13))) ∧ KR W1 B e (p + 1) s 0 0 ∧ RX W W1 ∧ W1.1 59 = W.1 59 ∧ (∀ j, j < r → W1.1 61 j = W.1 61 j ∧ W1.1 62 j = W.1 62 j ∧ W1.1 63 j = W.1 63 j ∧ W1.1 64 j = W.1 64 j) ∧ W1.1 61 r = sg B e p ∧ W1.1 62 r = nI s ∧ W1.1 54 12 = nI r := by
        intro W w1 w2 w3 w4 hm
        obtain ⟨Wa, da⟩ : ∃ Wa : zM, Wa = (zu W.1 61 r (sg B e p), W.2) := ⟨_, rfl⟩
        obtain ⟨Wb, db⟩ : ∃ Wb : zM, Wb = (zu Wa.1 54 5 (nI (p + 1)), Wa.2) := ⟨_, rfl⟩
        obtain ⟨Wc, dc⟩ : ∃ Wc : zM, Wc = (zu Wb.1 62 r (nI s), Wb.2) := ⟨_, rfl⟩
        obtain ⟨Wd, dd⟩ : ∃ Wd : zM, Wd = (zu Wc.1 54 9 (nI 0), Wc.2) := ⟨_, rfl⟩
        obtain ⟨We, de⟩ : ∃ We : zM, We = (zu Wd.1 54 11 (nI 0), Wd.2) := ⟨_, rfl⟩
        have xa : RX W Wa := by rw [da]; exact RX.c (by simp)
        have xb : RX W Wb := xa.tr (by rw [db]; exact RX.s (by simp))
        have xc : RX W Wc := xb.tr (by rw [dc]; exact RX.c (by simp))
        have xd : RX W Wd := xc.tr (by rw [dd]; exact RX.s (by simp))
        have xe : RX W We := xd.tr (by rw [de]; exact RX.s (by simp))
        have ca : ∀ c, c ≠ 61 → Wa.1 c = W.1 c := fun c hc => by rw [da]; exact zpc hc
        have cb : ∀ c, c ≠ 54 → Wb.1 c = Wa.1 c := fun c hc => by rw [db]; exact zpc hc
        have cc : ∀ c, c ≠ 62 → Wc.1 c = Wb.1 c := fun c hc => by rw [dc]; exact zpc hc
        have cd : ∀ c, c ≠ 54 → Wd.1 c = Wc.1 c := fun c hc => by rw [dd]; exact zpc hc
        have ce : ∀ c, c ≠ 54 → We.1 c = Wd.1 c := fun c hc => by rw [de]; exact zpc hc
        have sb : ∀ j, j ≠ 5 → Wb.1 54 j = W.1 54 j := fun j hj => by rw [db]; exact (zpn hj).trans (by rw [ca 54 (by decide)])
        have sc : ∀ j, Wc.1 54 j = Wb.1 54 j := fun j => by rw [cc 54 (by decide)]
        have sd : ∀ j, j ≠ 9 → Wd.1 54 j = Wc.1 54 j := fun j hj => by rw [dd]; exact zpn hj
        have se : ∀ j, j ≠ 11 → We.1 54 j = Wd.1 54 j := fun j hj => by rw [de]; exact zpn hj
        have c61 : We.1 61 = va_up (W.1 61) r (sg B e p) := by
          rw [ce 61 (by decide), cd 61 (by decide), cc 61 (by decide), cb 61 (by decide), da]
          show zu W.1 61 r (sg B e p) 61 = _
          rw [zu_self]
        have c62 : We.1 62 = va_up (W.1 62) r (nI s) := by
          rw [ce 62 (by decide), cd 62 (by decide), dc]
          show zu Wb.1 62 r (nI s) 62 = _
          rw [zu_self, cb 62 (by decide), ca 62 (by decide)]
        have oth : ∀ c, c = 59 ∨ c = 63 ∨ c = 64 → We.1 c = W.1 c := fun c hc => by
          rw [ce c (by omega), cd c (by omega), cc c (by omega), cb c (by omega), ca c (by omega)]
        have e12 : ∀ j, j = 12 ∨ j = 10 ∨ j = 6 → We.1 54 j = W.1 54 j := fun j hj => by
          rw [se j (by omega), sd j (by omega), sc j, sb j (by omega)]
        refine ⟨We, ?_, ⟨xe.st w1, xe.tb w2, ⟨?_, ?_⟩, ?_, ?_, ?_⟩, xe, oth 59 (by omega), fun j hj => ⟨by rw [c61, va_ne (by omega)], by rw [c62, va_ne (by omega)], by rw [oth 63 (by omega)], by rw [oth 64 (by omega)]⟩, by rw [c61, va_eq], by rw [c62, va_eq], ?_⟩
        · have sB := xb.st w1
          rw [hm0 W w1 w2 w3, f_X12_readsRule_39, hm.2.2, if_neg (show ¬ nI r = (16 : Int32) from fun hh => by have := (nI_eq (b := 16) (by omega) (by omega)).mp hh; omega), (ST.a w1 (o := 54) (k := 16) (a := 61) (by decide)), z_rd_eq, ln61, if_pos (by rw [z_ixN (by omega)]; omega), zl_eq, nI_clamp (by omega), ← da, ca 54 (by decide), w3.1, nI_1, zl_eq, ← db, (ST.a sB (o := 54) (k := 17) (a := 62) (by decide)), z_rd_eq, sb 12 (by decide), hm.2.2, ln62, if_pos (by rw [z_ixN (by omega)]; omega), zl_eq, nI_clamp (by omega), sb 10 (by decide), w4, ← dc, zl_eq, zl_eq, show ((zu (zu Wc.1 54 9 0) 54 11 0, Wc.2) : zM) = We by rw [de, dd]; rfl]
        · rw [se 5 (by decide), sd 5 (by decide), sc 5, db]; exact zps
        · rw [e12 6 (by omega)]; exact w3.2
        · rw [e12 10 (by omega)]; exact w4
        · rw [de]; exact zps
        · rw [se 9 (by decide), dd]; exact zps
        · rw [e12 12 (by omega)]; exact hm.2.2
      by_cases h120 : sg B e p = 120
      · obtain ⟨M', f, p', s', i1, i2, i3, i4, i5⟩ := ru_tail hq he (tpM M (p + 1) 0) (p + 1) s s r (sg B e p) hK1 (by omega) (by omega) (Nat.le_refl _) h71 hr' (fun j hj => (hU j hj).kf hq (Nat.le_refl _) (Nat.le_refl _) kt) (fun h => absurd h120 h)
        rw [if_pos h120]
        refine ⟨M', f, p', s', i1, i2, kt.g.tr i3, fun hz => ?_, ?_⟩
        · obtain ⟨a1, a2, a3, a4, a5⟩ := i4 hz
          exact ⟨hr', by omega, a2, a4, a5⟩
        · intro W w1 w2 w3 w4 hm
          obtain ⟨W1, b1, b2, b3, b4, b5, b6, b7, b8⟩ := start W w1 w2 w3 w4 hm
          have hm1 : RSm (tpM M (p + 1) 0) W1 q r s := by
            refine ⟨(hm.1.w (fun k _ => by rw [b4])).m (fun k hk => kt.2.2.2.1 k hk), fun j hj => ?_, b8⟩
            obtain ⟨n1, n2, n3, n4⟩ := hm.2.1 j hj
            obtain ⟨u1, u2, u3, u4⟩ := b5 j hj
            rw [u1, u2, u3, u4, n1, n2, n3, n4, kt.1 (q + 3) (by omega) (by omega) (by omega) (by omega), kt.1 (q + 4) (by omega) (by omega) (by omega) (by omega), kt.1 (q + 5) (by omega) (by omega) (by omega) (by omega), kt.1 (q + 6) (by omega) (by omega) (by omega) (by omega)]
            exact ⟨rfl, rfl, rfl, rfl⟩
          obtain ⟨r1, r2⟩ := i5 W1 b2 hm1 b6 b7
          rw [b1, if_pos h120]
          refine ⟨fun hz => ?_, fun hz => ?_⟩
          · obtain ⟨W', g1, g2, g3⟩ := r1 hz
            exact ⟨W', g1, b3.tr g2, g3⟩
          · obtain ⟨W', g1, g2, g3⟩ := r2 hz
            exact ⟨W', g1, b3.tr g2, g3⟩
      · obtain ⟨M1, f1, p1, s1, i1, i2, i3, i4, i5, i6, i7⟩ := am_top (o := 0) he (by omega) (am_all (B := B) hq he 6 0 30 (by omega) (by omega)) (tpM M (p + 1) 0) (p + 1) s 0 hK1 (by omega) (by omega) (by omega)
        have i1' : f_X5_readAmount_r 38 0 (tpM M (p + 1) 0) = some ((), M1) := i1
        have kf1 : KF q s M M1 := kt.tr i3 (Nat.le_refl _)
        have h72 : M1.1 q 7 = nI r := (kf1.2.2.1 7 (by decide)).trans h7
        rw [if_neg h120, i1', z_call_eq]
        by_cases hf : f1 = 0
        · subst hf
          obtain ⟨a1, a2, a3, a4⟩ := i6 rfl
          obtain ⟨M', f, p', s', j1, j2, j3, j4, j5⟩ := ru_tail hq he M1 p1 s1 s r (sg B e p) i2 a2 (by omega) i4 h72 hr' (fun j hj => (hU j hj).kf hq i4 (Nat.le_refl _) kf1) (fun _ => a4)
          refine ⟨M', f, p', s', j1, j2, kf1.g.tr j3, fun hz => ?_, ?_⟩
          · obtain ⟨c1, c2, c3, c4, c5⟩ := j4 hz
            exact ⟨hr', by omega, c2, c4, c5⟩
          · intro W w1 w2 w3 w4 hm
            obtain ⟨W1, b1, b2, b3, b4, b5, b6, b7, b8⟩ := start W w1 w2 w3 w4 hm
            obtain ⟨W2, g1, g2, g3, g4⟩ := (i7 W1 0 b2 (Or.inl rfl) (by omega)).2 rfl
            have o2 : ∀ c, c = 61 ∨ c = 62 ∨ c = 63 ∨ c = 64 → W2.1 c = W1.1 c := fun c hc => g3.1 c (by simp; omega)
            have hm2 : RSm M1 W2 q r s1 := by
              refine ⟨CDS.ap (s1 := s) ((hm.1.w (fun k hk => by rw [g3.2.2.1 k hk, b4])).m (fun k hk => kf1.2.2.2.1 k hk)) g4, fun j hj => ?_, (g3.2.1 12 (by decide)).trans b8⟩
              obtain ⟨n1, n2, n3, n4⟩ := hm.2.1 j hj
              obtain ⟨u1, u2, u3, u4⟩ := b5 j hj
              rw [o2 61 (by omega), o2 62 (by omega), o2 63 (by omega), o2 64 (by omega), u1, u2, u3, u4, n1, n2, n3, n4, kf1.1 (q + 3) (by omega) (by omega) (by omega) (by omega), kf1.1 (q + 4) (by omega) (by omega) (by omega) (by omega), kf1.1 (q + 5) (by omega) (by omega) (by omega) (by omega), kf1.1 (q + 6) (by omega) (by omega) (by omega) (by omega)]
              exact ⟨rfl, rfl, rfl, rfl⟩
            obtain ⟨r1, r2⟩ := j5 W2 g2 hm2 (by rw [o2 61 (by omega)]; exact b6) (by rw [o2 62 (by omega)]; exact b7)
            rw [b1, if_neg h120, g1, z_call_eq, if_neg (by decide)]
            refine ⟨fun hz => ?_, fun hz => ?_⟩
            · obtain ⟨W', h1, h2, h3⟩ := r1 hz
              exact ⟨W', h1, (b3.tr g3.rx).tr h2, h3⟩
            · obtain ⟨W', h1, h2, h3⟩ := r2 hz
              exact ⟨W', h1, (b3.tr g3.rx).tr h2, h3⟩
        · obtain ⟨M', j1, j2, j3⟩ := ru_tailF (kd := sg B e p) (am := nI s) hq i2 hf h72 hr'
          refine ⟨M', f1, p1, s1, j1, j2, kf1.g.tr j3, fun hz => absurd hz hf, ?_⟩
          intro W w1 w2 w3 w4 hm
          refine ⟨fun _ => ?_, fun hz => absurd hz hf⟩
          obtain ⟨W1, b1, b2, b3, b4, b5, b6, b7, b8⟩ := start W w1 w2 w3 w4 hm
          obtain ⟨W2, g1, g2, g3⟩ := (i7 W1 0 b2 (Or.inl rfl) (by omega)).1 hf
          exact ⟨W2, by rw [b1, if_neg h120, g1, z_call_eq, if_pos rfl], b3.tr g2.rx, g3⟩
  · have n99 : sg B e p ≠ 99 := fun h => hk (Or.inl h)
    have n107 : sg B e p ≠ 107 := fun h => hk (Or.inr (Or.inl h))
    have n100 : sg B e p ≠ 100 := fun h => hk (Or.inr (Or.inr (Or.inl h)))
    have n120 : sg B e p ≠ 120 := fun h => hk (Or.inr (Or.inr (Or.inr h)))
    have hnz : flt 1 p ≠ 0 := flt_nz (by omega) (by omega) (by omega)
    rw [f_X5_readRule, hK.t0, z_rd_eq, hK.sg he hp, z_call_eq, if_neg n99, if_neg n107, if_neg n100, if_neg n120, hK.t0, z_rd_eq, z_rd_eq, show (1 : Int32) = nI 1 from rfl, hK.fl, z_call_eq]
    refine ⟨tpM M p (flt 1 p), flt 1 p, p, s, rfl, hK.tp hq, (KF.tp (s := s) hq).g, fun hz => absurd hz hnz, ?_⟩
    intro W w1 w2 w3 w4 hm
    refine ⟨fun _ => ?_, fun hz => absurd hz hnz⟩
    refine ⟨(zu W.1 54 7 (flt 1 p), W.2), ?_, RX.s (by simp), zps⟩
    rw [f_X12_readsRule, m_here w1 w2 w3 (by omega) (by omega), z_call_eq, if_neg n99, if_neg n107, if_neg n100, if_neg n120, w3.1, show (1 : Int32) = nI 1 from rfl, m_wrN, z_call_eq, if_pos (Or.inl rfl)]
