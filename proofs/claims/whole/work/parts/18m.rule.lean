/-! reading a law: a rule -/
def RUe (M : zM) (q s j : Nat) : Prop := ∃ a b c, M.1 (q + 4) j = nI a ∧ M.1 (q + 5) j = nI b ∧ M.1 (q + 6) j = nI c ∧ a ≤ b ∧ b ≤ c ∧ c ≤ s ∧ (M.1 (q + 3) j ≠ 120 → EXs (M.1 (q + 1)) (M.1 (q + 2)) 0 a b) ∧ CXs (M.1 (q + 1)) (M.1 (q + 2)) b c
theorem RUe.to {M M' : zM} {q s s' j : Nat} (h : RUe M q s j) (hs : s ≤ s') (e3 : M'.1 (q + 3) j = M.1 (q + 3) j) (e4 : M'.1 (q + 4) j = M.1 (q + 4) j) (e5 : M'.1 (q + 5) j = M.1 (q + 5) j) (e6 : M'.1 (q + 6) j = M.1 (q + 6) j) (e : ∀ k, k < s → M'.1 (q + 1) k = M.1 (q + 1) k ∧ M'.1 (q + 2) k = M.1 (q + 2) k) : RUe M' q s' j := by
  obtain ⟨a, b, c, h1, h2, h3, h4, h5, h6, h7, h8⟩ := h
  refine ⟨a, b, c, e4.trans h1, e5.trans h2, e6.trans h3, h4, h5, by omega, fun hk => ?_, ?_⟩
  · rw [e3] at hk
    exact (h7 hk).cg (fun k _ hk => (e k (by omega)).1) (fun k _ hk => (e k (by omega)).2)
  · exact h8.cg (fun k _ hk => (e k (by omega)).1) (fun k _ hk => (e k (by omega)).2)
theorem RUe.kf {M M' : zM} {q s s' t j : Nat} (hq : LO q) (h : RUe M q s j) (hs : s ≤ s') (hst : s ≤ t) (hF : KF q t M M') : RUe M' q s' j := by
  have hq2 : 20 < q ∧ q < 30 := by rcases hq with rfl | rfl <;> omega
  refine h.to hs ?_ ?_ ?_ ?_ (fun k hk => hF.2.2.2.1 k (by omega))
  · rw [hF.1 (q + 3) (by omega) (by omega) (by omega) (by omega)]
  · rw [hF.1 (q + 4) (by omega) (by omega) (by omega) (by omega)]
  · rw [hF.1 (q + 5) (by omega) (by omega) (by omega) (by omega)]
  · rw [hF.1 (q + 6) (by omega) (by omega) (by omega) (by omega)]
def RSc (M : zM) (q r s : Nat) : Prop := M.1 q 7 = nI r ∧ ∀ j, j < r → RUe M q s j
def RX (W W' : zM) : Prop := (∀ c, c ∉ [54, 59, 60, 61, 62, 63, 64] → W'.1 c = W.1 c) ∧ (∀ j, j ∉ [5, 7, 8, 9, 10, 11, 12] → W'.1 54 j = W.1 54 j) ∧ W'.2 = W.2
theorem RX.rf {W : zM} : RX W W := ⟨fun _ _ => rfl, fun _ _ => rfl, rfl⟩
theorem RX.tr {W W1 W2 : zM} (h1 : RX W W1) (h2 : RX W1 W2) : RX W W2 := ⟨fun c h => (h2.1 c h).trans (h1.1 c h), fun j h => (h2.2.1 j h).trans (h1.2.1 j h), h2.2.2.trans h1.2.2⟩
theorem KX.rx {s w : Nat} {W W' : zM} (h : KX s w W W') : RX W W' := ⟨fun c hc => h.1 c (by simp at hc ⊢; omega), fun j hj => h.2.1 j (by simp at hj ⊢; omega), h.2.2.2.2⟩
theorem RX.c {W : zM} {c j : Nat} {v : Int32} (h : c ∈ [61, 62, 63, 64]) : RX W (zu W.1 c j v, W.2) := by
  have h54 : (54 : Nat) ≠ c := by intro e; subst e; simp at h
  refine ⟨fun d hd => zpc (fun e => hd (by rw [e]; simp at h ⊢; omega)), fun i _ => ?_, rfl⟩
  show zu W.1 c j v 54 i = _
  rw [zu_cell _ _ _ h54]
theorem RX.s {W : zM} {j : Nat} {v : Int32} (h : j ∈ [5, 7, 8, 9, 10, 11, 12]) : RX W (zu W.1 54 j v, W.2) := ⟨fun d hd => zpc (fun e => hd (by rw [e]; simp)), fun i hi => zpn (fun e => hi (by rw [e]; exact h)), rfl⟩
theorem RX.st {W W' : zM} (h : RX W W') (hS : ST W) : ST W' := hS.to (by rw [h.2.2])
theorem RX.tb {W W' : zM} {B : Nat → Nat} (h : RX W W') (hB : TB W B) : TB W' B := hB.to (h.1 2 (by decide)) (h.1 58 (by decide))
theorem KR.c {W : zM} {B : Nat → Nat} {e p s w o c j : Nat} {v : Int32} (h : KR W B e p s w o) (hc : c ∈ [61, 62, 63, 64]) : KR (zu W.1 c j v, W.2) B e p s w o := by
  have x := RX.c (W := W) (j := j) (v := v) hc
  have h54 : (zu W.1 c j v, W.2).1 54 = W.1 54 := zpc (by intro e; subst e; simp at hc)
  obtain ⟨h1, h2, h3, h4, h5, h6⟩ := h
  exact ⟨x.st h1, x.tb h2, ⟨by rw [h54]; exact h3.1, by rw [h54]; exact h3.2⟩, by rw [h54]; exact h4, by rw [h54]; exact h5, by rw [h54]; exact h6⟩
theorem ln61 : z_ln SH 61 = 16 := by decide
theorem ln62 : z_ln SH 62 = 16 := by decide
theorem ln63 : z_ln SH 63 = 16 := by decide
theorem ln64 : z_ln SH 64 = 16 := by decide
def RSm (M W : zM) (q r s : Nat) : Prop := CDS M q 0 s W ∧ (∀ j, j < r → W.1 61 j = M.1 (q + 3) j ∧ W.1 62 j = M.1 (q + 4) j ∧ W.1 63 j = M.1 (q + 5) j ∧ W.1 64 j = M.1 (q + 6) j) ∧ W.1 54 12 = nI r
theorem ru_tailF {M : zM} {B : Nat → Nat} {q e p s r : Nat} {f kd am : Int32} (hq : LO q) (h : KC M B q e p s f) (hf : f ≠ 0) (h7 : M.1 q 7 = nI r) (hr : r < 16) : ∃ M', f_X5_readRule_102 38 kd am M = some ((), M') ∧ KC M' B q e p s f ∧ KG q M M' := by
  obtain ⟨M', i1, i2, i3, _⟩ := k_rule (kd := kd) (am := am) (te := nI s) hq h h7 hr
  refine ⟨M', ?_, i2, i3⟩
  have hc : f_X5_readCondition_r 38 1 M = some ((), M) := gCn_F (n := 24) h hf
  rw [f_X5_readRule_102, h.t1, z_rd_eq, zl_eq, h.t0, z_rd_eq, h.exF hf (by decide), z_call_eq, hc, z_call_eq, h.t0, z_rd_eq, h.exF hf (by decide), z_call_eq, h.t1, z_rd_eq, h.2.2.2.1, i1, z_call_eq]
theorem ru_tail {B : Nat → Nat} {e q : Nat} (hq : LO q) (he : e ≤ 240) (M : zM) (p s s0 r : Nat) (kd : Int32) (hK : KC M B q e p s 0) (hp : p ≤ e) (hs : s ≤ p) (hs0 : s0 ≤ s) (h7 : M.1 q 7 = nI r) (hr : r < 16) (hU : ∀ j, j < r → RUe M q s j) (hE : kd ≠ 120 → EXs (M.1 (q + 1)) (M.1 (q + 2)) 0 s0 s) : ∃ M' f p' s', f_X5_readRule_102 38 kd (nI s0) M = some ((), M') ∧ KC M' B q e p' s' f ∧ KG q M M' ∧ (f = 0 → p < p' ∧ p' ≤ e ∧ s ≤ s' ∧ s' ≤ p' ∧ RSc M' q (r + 1) s') ∧ ∀ W, KR W B e p s 0 0 → RSm M W q r s → W.1 61 r = kd → W.1 62 r = nI s0 →
  (f ≠ 0 → ∃ W', f_X12_readsRule_116 54 W = some (0, W') ∧ RX W W' ∧ W'.1 54 7 = f) ∧
  (f = 0 → ∃ W', f_X12_readsRule_116 54 W = some (1, W') ∧ RX W W' ∧ MR W' e p' ∧ W'.1 54 10 = nI s' ∧ RSm M' W' q (r + 1) s') := by
  have hq2 : 20 < q ∧ q < 30 := by rcases hq with rfl | rfl <;> omega
  obtain ⟨M1, M2, M3, f, p1, s1, f1, p2, f2, p', s', c1, c2, c3, c4, c5, c6, c7, c8, c9, c10, c11⟩ := co_top hq he M p s hK hp hs
  have h73 : M3.1 q 7 = nI r := (c7.2.2.1 7 (by decide)).trans h7
  obtain ⟨M4, d1, d2, d3, d4, d5, d6, d7, d8, d9, d10⟩ := k_rule (kd := kd) (am := nI s0) (te := nI s) hq c6 h73 hr
  have c3' : f_X5_readCondition_r 38 1 M1 = some ((), M2) := c3
  have g3 : ∀ c, c = q + 3 ∨ c = q + 4 ∨ c = q + 5 ∨ c = q + 6 → M3.1 c = M.1 c := fun c hc => c7.1 c (by omega) (by omega) (by omega) (by omega)
  refine ⟨M4, f, p', s', ?_, d2, c7.g.tr d3, fun hz => ?_, ?_⟩
  · rw [f_X5_readRule_102, hK.t1, z_rd_eq, zl_eq, hK.t0, z_rd_eq, c1, z_call_eq, c3', z_call_eq, c4.t0, z_rd_eq, c5, z_call_eq, c6.t1, z_rd_eq, hK.2.2.2.1, d1, z_call_eq]
  · obtain ⟨a1, a2, a3, a4⟩ := c10 hz
    refine ⟨a1, a2, c8, by omega, d4, fun j hj => ?_⟩
    by_cases hjr : j < r
    · refine (hU j hjr).to c8 ?_ ?_ ?_ ?_ (fun k hk => ?_)
      · rw [d7, va_ne (by omega), g3 _ (by omega)]
      · rw [d8, va_ne (by omega), g3 _ (by omega)]
      · rw [d9, va_ne (by omega), g3 _ (by omega)]
      · rw [d10, va_ne (by omega), g3 _ (by omega)]
      · rw [d5, d6]; exact c7.2.2.2.1 k hk
    · obtain rfl : j = r := by omega
      refine ⟨s0, s, s', by rw [d8, va_eq], by rw [d9, va_eq], by rw [d10, va_eq], hs0, c8, Nat.le_refl _, fun hk => ?_, by rw [d5, d6]; exact a4⟩
      rw [d7, va_eq] at hk
      rw [d5, d6]
      exact (hE hk).cg (fun k _ hk => (c7.2.2.2.1 k hk).1) (fun k _ hk => (c7.2.2.2.1 k hk).2)
  · intro W hR hm h61 h62
    obtain ⟨m1, m2, m3⟩ := hm
    obtain ⟨W1, w1⟩ : ∃ W1 : zM, W1 = (zu W.1 63 r (nI s), W.2) := ⟨_, rfl⟩
    have hR1 : KR W1 B e p s 0 0 := by rw [w1]; exact hR.c (by simp)
    have x1 : RX W W1 := by rw [w1]; exact RX.c (by simp)
    have cl1 : ∀ c, c ≠ 63 → W1.1 c = W.1 c := fun c hc => by rw [w1]; exact zpc hc
    obtain ⟨r1, r2⟩ := c11 W1 0 0 hR1
    have hd : f_X12_readsRule_116 54 W = z_call (f_X12_readsCondition 54 W1) fun v_4 M_5 => (if v_4 = 0 then some (0, M_5) else z_rd (M_5.2.1 54 19) fun a_8 => if z_ix (M_5.1 54 12) (z_ln SH a_8) = true then zl (zu M_5.1 a_8 ((M_5.1 54 12) : Int32).toNatClampNeg (M_5.1 54 10), M_5.2) fun M_10 => zl (zu M_10.1 54 12 ((M_10.1 54 12) + 1), M_10.2) fun M_11 => some (1, M_11) else none) := by
      rw [f_X12_readsRule_116, (ST.a hR.1 (o := 54) (k := 18) (a := 63) (by decide)), z_rd_eq, m3, ln63, if_pos (by rw [z_ixN (by omega)]; omega), zl_eq, nI_clamp (by omega), hR.2.2.2.1, ← w1]
    refine ⟨fun hz => ?_, fun hz => ?_⟩
    · obtain ⟨W', a1, a2, a3⟩ := r1 hz
      exact ⟨W', by rw [hd, a1, z_call_eq, if_pos rfl], x1.tr a2.rx, a3⟩
    · obtain ⟨b1, b2, b3, b4⟩ := c10 hz
      obtain ⟨W2, a1, a2, a3, a4⟩ := r2 hz
      obtain ⟨W3, w3⟩ : ∃ W3 : zM, W3 = (zu W2.1 64 r (nI s'), W2.2) := ⟨_, rfl⟩
      obtain ⟨W4, w4⟩ : ∃ W4 : zM, W4 = (zu W3.1 54 12 (nI (r + 1)), W3.2) := ⟨_, rfl⟩
      have cl3 : ∀ c, c ≠ 64 → W3.1 c = W2.1 c := fun c hc => by rw [w3]; exact zpc hc
      have cl4 : ∀ c, c ≠ 54 → W4.1 c = W3.1 c := fun c hc => by rw [w4]; exact zpc hc
      have e12 : W2.1 54 12 = nI r := (a3.2.1 12 (by decide)).trans (by rw [cl1 54 (by decide)]; exact m3)
      have e12' : W3.1 54 12 = nI r := by rw [cl3 54 (by decide)]; exact e12
      have x3 : RX W W3 := (x1.tr a3.rx).tr (by rw [w3]; exact RX.c (by simp))
      have x4 : RX W W4 := x3.tr (by rw [w4]; exact RX.s (by simp))
      have s54 : ∀ j, j ≠ 12 → W4.1 54 j = W2.1 54 j := fun j hj => by rw [w4]; exact (zpn hj).trans (by rw [cl3 54 (by decide)])
      have cc : ∀ c, c = 61 ∨ c = 62 → W4.1 c = W.1 c := fun c hc => by
        rw [cl4 c (by omega), cl3 c (by omega), a3.1 c (by simp; omega), cl1 c (by omega)]
      have c63 : W4.1 63 = va_up (W.1 63) r (nI s) := by
        rw [cl4 63 (by decide), cl3 63 (by decide), a3.1 63 (by decide), w1]
        show zu W.1 63 r (nI s) 63 = _
        rw [zu_self]
      have c64 : W4.1 64 = va_up (W.1 64) r (nI s') := by
        rw [cl4 64 (by decide), w3]
        show zu W2.1 64 r (nI s') 64 = _
        rw [zu_self, a3.1 64 (by decide), cl1 64 (by decide)]
      refine ⟨W4, ?_, x4, ⟨(s54 5 (by decide)).trans a2.2.2.1.1, (s54 6 (by decide)).trans a2.2.2.1.2⟩, (s54 10 (by decide)).trans a2.2.2.2.1, ?_, fun j hj => ?_, ?_⟩
      · rw [hd, a1, z_call_eq, if_neg (by decide), (ST.a a2.1 (o := 54) (k := 19) (a := 64) (by decide)), z_rd_eq, e12, ln64, if_pos (by rw [z_ixN (by omega)]; omega), zl_eq, nI_clamp (by omega), a2.2.2.2.1, ← w3, e12', nI_1, zl_eq, ← w4]
      · have q59 : W4.1 59 = W2.1 59 := by rw [cl4 59 (by decide), cl3 59 (by decide)]
        refine CDS.ap (s1 := s) ?_ ?_
        · exact (m1.w (fun k hk => by rw [q59, a3.2.2.1 k hk, cl1 59 (by decide)])).m (fun k hk => by rw [d5, d6]; exact c7.2.2.2.1 k hk)
        · exact (a4.w (fun k _ => by rw [q59])).m (fun k _ => by rw [d5, d6]; exact ⟨rfl, rfl⟩)
      · rw [cc 61 (Or.inl rfl), cc 62 (Or.inr rfl), c63, c64, d7, d8, d9, d10]
        by_cases hjr : j < r
        · obtain ⟨n1, n2, n3, n4⟩ := m2 j hjr
          rw [va_ne (by omega), va_ne (by omega), va_ne (by omega), va_ne (by omega), va_ne (by omega), va_ne (by omega), g3 _ (by omega), g3 _ (by omega), g3 _ (by omega), g3 _ (by omega)]
          exact ⟨n1, n2, n3, n4⟩
        · obtain rfl : j = r := by omega
          rw [va_eq, va_eq, va_eq, va_eq, va_eq, va_eq]
          exact ⟨h61, h62, rfl, rfl⟩
      · rw [w4]; exact zps
