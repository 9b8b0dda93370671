/-! law -/
theorem ST.ref {M : zM} {o k : Nat} {v : Option Nat} {L : zL} (hS : ST M) (h : ∀ q ∈ zRT, ¬ (q.1 = o ∧ q.2.1 = k)) : ST (M.1, zu M.2.1 o k v, L) := by
  intro q hq
  show zu M.2.1 o k v q.1 q.2.1 = _
  rw [zu_at, if_neg (h q hq)]
  exact hS q hq
theorem RUe.f {M : zM} {q s j : Nat} {cd : Nat → Int32} (h : RUe M q s j) (hc : ∀ k, k < s → cd k = enc (M.1 (q + 1) k) (M.1 (q + 2) k)) : RUf (M.1 (q + 1)) (M.1 (q + 2)) cd s (M.1 (q + 3) j) (M.1 (q + 4) j) (M.1 (q + 5) j) (M.1 (q + 6) j) := by
  obtain ⟨a, b, c, h1, h2, h3, h4, h5, h6, h7, h8⟩ := h
  refine ⟨a, b, c, h1, h2, h3, h4, h5, h6, fun hk => ?_, ?_⟩
  · obtain ⟨l, T, t1, t2, t3⟩ := h7 hk
    exact ⟨T, t1, t2, fun k x y => by rw [hc k (by omega)]; exact t3 k x y⟩
  · obtain ⟨l, T, t1, t2, t3⟩ := h8
    exact ⟨T, t1, t2, fun k x y => by rw [hc k (by omega)]; exact t3 k x y⟩
/-- the invariant behind a reading of a law -/
theorem Inv.lw {M M2 : zM} {N K : Nat → Nat} {B : Nat → Nat} {q : Nat} (hq : LO q) (hS : ST M2) (hR : NR N) (hN : MN M 55 N) (hC : CS M 3 N) (hK : KP M K) (hB : TB M B) (hL : LW M2) (e : ∀ c, (c < q ∨ q + 6 < c) → c ≠ 1 → c ≠ 54 → (c < 59 ∨ 69 < c) → M2.1 c = M.1 c) (h1 : M2.1 1 1 = nI 0) (h4 : M2.1 54 4 = nI 0) (h41 : M2.1 54 41 = M.1 54 41) : Inv M2 := by
  have hq2 : 20 < q ∧ q < 30 := by rcases hq with rfl | rfl <;> omega
  refine ⟨N, K, hS, hR, hN.to (e 55 (by omega) (by omega) (by omega) (by omega)), hC.to (fun c a b => e c (by omega) (by omega) (by omega) (by omega)), hK.to (by rw [e 0 (by omega) (by omega) (by omega) (by omega)]) h41 (e 57 (by omega) (by omega) (by omega) (by omega)) (fun c a b => e c (by omega) (by omega) (by omega) (by omega)), TP.put (n := 0) (B := B) (by omega) h1 h4 (hB.to (e 2 (by omega) (by omega) (by omega) (by omega)) (e 58 (by omega) (by omega) (by omega) (by omega))), hL⟩
theorem p_law : ok_law Inv := by
  intro M hI a
  obtain ⟨N, K, hS, hR, hN, hC, hK, hT, hL⟩ := id hI
  obtain ⟨sz, B, q1, q2, q3, q4⟩ := hT.get
  rcases inL_cases a 1 240 (by omega) (by omega) with ⟨n, n1, n2, rfl, hin'⟩ | ha'
  · have hin : ∀ M, f_X12_in (nI n) 1 240 M = some (1, M) := hin'
    by_cases hsz : n ≤ sz
    · obtain ⟨q0, hq0, l1, l2, l3⟩ := id hL
      obtain ⟨q, hqd⟩ : ∃ q, q = 50 - q0 := ⟨_, rfl⟩
      have hq : LO q := by rcases hq0 with h | h <;> rw [hqd, h]; exact Or.inr rfl; exact Or.inl rfl
      have hqq : q0 = 50 - q := by rcases hq0 with h | h <;> omega
      have hq2 : 20 < q ∧ q < 30 ∧ 20 < q0 ∧ q0 < 30 ∧ (q0 + 8 = q ∨ q + 8 = q0) := by rcases hq0 with h | h <;> omega
      rw [← hqd] at l2
      -- the class, up to the reading
      obtain ⟨M1, dm1⟩ : ∃ M1 : zM, M1 = tkM M n := ⟨_, rfl⟩
      have s1 : ST M1 := by rw [dm1]; exact hS.to rfl
      obtain ⟨M2, dm2⟩ : ∃ M2 : zM, M2 = (M1.1, zu M1.2.1 38 1 (some q), M1.2.2) := ⟨_, rfl⟩
      have s2 : ST M2 := by rw [dm2]; exact s1.ref (by decide)
      obtain ⟨M3, dm3⟩ : ∃ M3 : zM, M3 = (zu (zu M2.1 q 6 (nI 0)) q 7 (nI 0), M2.2) := ⟨_, rfl⟩
      have s3 : ST M3 := by rw [dm3]; exact s2.to rfl
      have c1 : ∀ c, c ≠ 1 → M1.1 c = M.1 c := fun c hc => by rw [dm1]; exact tkM_fr.1 c (by simpa using hc)
      have c2 : M2.1 = M1.1 := by rw [dm2]
      have c3 : ∀ c, c ≠ q → M3.1 c = M1.1 c := fun c hc => by
        rw [dm3]
        show zu (zu M2.1 q 6 (nI 0)) q 7 (nI 0) c = _
        rw [zu_cell _ _ _ hc, zu_cell _ _ _ hc, c2]
      have tb3 : TB M3 B := q4.to ((c3 2 (by omega)).trans (c1 2 (by omega))) ((c3 58 (by omega)).trans (c1 58 (by omega)))
      have cr1 : CR M1 n 0 0 := by rw [dm1]; exact tkM_cr
      have hK3 : KC M3 B q n 0 0 0 := by
        refine ⟨s3, tb3, ?_, ?_, ?_⟩
        · unfold CR
          rw [c3 1 (by omega)]
          exact cr1
        · rw [dm3]
          show zu (zu M2.1 q 6 (nI 0)) q 7 (nI 0) q 6 = _
          rw [zu_ne _ _ _ (by decide), zu_same]
        · rw [dm3, dm2]
          show zu M1.2.1 38 1 (some q) 38 1 = _
          rw [zu_same]
      have hR3 : RSc M3 q 0 0 := by
        refine ⟨?_, fun j hj => by omega⟩
        rw [dm3]
        show zu (zu M2.1 q 6 (nI 0)) q 7 (nI 0) q 7 = _
        rw [zu_same]
      obtain ⟨M4, f, p', s', r', i1, i2, i3, i4, i5⟩ := lw_lp hq n2 17 zF zF M3 0 0 0 (by omega) (by omega) (by unfold zF; omega) (by unfold zF; omega) hK3 (by omega) (by omega) hR3
      have i1' : f_X5_read_14 38 zF 0 M3 = some ((), M4) := i1
      have hread : f_X5_read 38 q M1 = some ((), M4) := by
        rw [f_X5_read, zl_eq]
        show z_rd (zu M1.2.1 38 1 (some q) 38 1) _ = _
        rw [zu_same, z_rd_eq, f_X4_clear, zl_eq, zl_eq, z_call_eq]
        show f_X5_read_14 38 zF 0 (zu (zu M1.1 q 6 0) q 7 0, zu M1.2.1 38 1 (some q), M1.2.2) = _
        rw [← i1', dm3, dm2]
        rfl
      have r12 : M1.2.1 0 12 = some q := by rw [dm1]; exact l2
      have hcls : f_X11_law 0 (nI n) M = z_call (some ((), M4)) fun _ M_17 => z_rd (M_17.2.1 0 0) fun a_19 => z_call (f_X10_isFaulty a_19 M_17) fun v_20 M_21 => (if v_20 = 0 then z_rd (M_21.2.1 0 11) fun a_24 => z_rd (M_21.2.1 0 12) fun a_25 => zl (M_21.1, zu M_21.2.1 0 11 (some a_25), M_21.2.2) fun M_26 => zl (M_26.1, zu M_26.2.1 0 12 (some a_24), M_26.2.2) fun M_27 => z_rd (M_27.2.1 0 11) fun a_28 => some ((M_27.1 a_28 7), M_27) else z_rd (M_21.2.1 0 0) fun a_29 => some ((M_21.1 a_29 4), M_21)) := by
        rw [f_X11_law, e_win (hin M), z_call_eq, if_neg (by decide), (ST.a hS (o := 0) (k := 0) (a := 1) (by decide)), z_rd_eq, c_has q2 q1 (by omega), z_call_eq, if_pos hsz, if_neg (by decide), (ST.a hS (o := 0) (k := 0) (a := 1) (by decide)), z_rd_eq, c_take hS (by omega), z_call_eq, ← dm1, (ST.a s1 (o := 0) (k := 5) (a := 38) (by decide)), z_rd_eq, r12, z_rd_eq, hread]
      have s4 := i2.1
      have m4 : ∀ c, c ≠ 1 → (c < q ∨ q + 6 < c) → M4.1 c = M.1 c := fun c a b => (i3.1 c a b).trans ((c3 c (by omega)).trans (c1 c a))
      have m45 : M4.1 1 1 = nI 0 := by
        rw [i3.2.1 1 (by decide) (by decide), c3 1 (by omega), dm1]
        exact tkM_1
      have r4 : M4.2 = (zu M.2.1 38 1 (some q), M.2.2) := by rw [i3.2.2, dm3, dm2, dm1]; rfl
      have r11 : M4.2.1 0 11 = some q0 := by
        rw [r4]
        show zu M.2.1 38 1 (some q) 0 11 = _
        rw [zu_cell _ _ _ (by decide)]; exact l1
      have r12' : M4.2.1 0 12 = some q := by
        rw [r4]
        show zu M.2.1 38 1 (some q) 0 12 = _
        rw [zu_cell _ _ _ (by decide)]; exact l2
      -- what the reference starts from
      have begin_ : ∀ (X : zM), ST X → X.1 = M4.1 → ∃ W, f_X12_law 54 (nI n) X = Lz zF W ∧ ST W ∧ TB W B ∧ MR W n 0 ∧ W.1 54 10 = nI 0 ∧ W.1 54 12 = nI 0 ∧ (∀ c, c ≠ 54 → W.1 c = M4.1 c) ∧ (∀ j, j ≠ 5 → j ≠ 6 → j ≠ 10 → j ≠ 12 → W.1 54 j = M.1 54 j) ∧ W.2 = X.2 := by
        intro X x1 x2
        have x54 : X.1 54 = M.1 54 := by rw [x2]; exact m4 54 (by omega) (by omega)
        obtain ⟨Wa, da⟩ : ∃ Wa : zM, Wa = (zu X.1 54 5 (nI 0), X.2) := ⟨_, rfl⟩
        obtain ⟨Wb, db⟩ : ∃ Wb : zM, Wb = (zu Wa.1 54 6 (nI n), Wa.2) := ⟨_, rfl⟩
        obtain ⟨Wc, dc⟩ : ∃ Wc : zM, Wc = (zu Wb.1 54 10 (nI 0), Wb.2) := ⟨_, rfl⟩
        obtain ⟨Wd, dd⟩ : ∃ Wd : zM, Wd = (zu Wc.1 54 12 (nI 0), Wc.2) := ⟨_, rfl⟩
        have sa : ∀ j, j ≠ 5 → Wa.1 54 j = X.1 54 j := fun j hj => by rw [da]; exact zpn hj
        have sb : ∀ j, j ≠ 6 → Wb.1 54 j = Wa.1 54 j := fun j hj => by rw [db]; exact zpn hj
        have sc : ∀ j, j ≠ 10 → Wc.1 54 j = Wb.1 54 j := fun j hj => by rw [dc]; exact zpn hj
        have sd : ∀ j, j ≠ 12 → Wd.1 54 j = Wc.1 54 j := fun j hj => by rw [dd]; exact zpn hj
        have oth : ∀ c, c ≠ 54 → Wd.1 c = X.1 c := fun c hc => by
          rw [dd]
          show zu Wc.1 54 12 (nI 0) c = _
          rw [zu_cell _ _ _ hc, dc]
          show zu Wb.1 54 10 (nI 0) c = _
          rw [zu_cell _ _ _ hc, db]
          show zu Wa.1 54 6 (nI n) c = _
          rw [zu_cell _ _ _ hc, da]
          exact zpc hc
        have rf : Wd.2 = X.2 := by rw [dd, dc, db, da]
        refine ⟨Wd, ?_, x1.to (by rw [rf]), q4.to ((oth 2 (by omega)).trans (by rw [x2]; exact m4 2 (by omega) (by omega))) ((oth 58 (by omega)).trans (by rw [x2]; exact m4 58 (by omega) (by omega))), ⟨?_, ?_⟩, ?_, ?_, fun c hc => by rw [oth c hc, x2], fun j h5 h6 h10 h12 => by rw [sd j h12, sc j h10, sb j h6, sa j h5, x54], rf⟩
        · rw [f_X12_law, hin X, z_call_eq, if_neg (by decide), x54, q3, if_pos (nI_le hsz (by omega)), f_X12_beginsText, zl_eq, zl_eq, zl_eq, zl_eq, z_call_eq]
          show z_call (f_X12_readsRule 54 (zu (zu (zu (zu X.1 54 5 0) 54 6 (nI n)) 54 10 0) 54 12 0, X.2)) _ = _
          unfold Lz
          rw [show ((zu (zu (zu (zu X.1 54 5 0) 54 6 (nI n)) 54 10 0) 54 12 0, X.2) : zM) = Wd by rw [dd, dc, db, da]; rfl]
        · rw [sd 5 (by decide), sc 5 (by decide), sb 5 (by decide), da]; exact zps
        · rw [sd 6 (by decide), sc 6 (by decide), db]; exact zps
        · rw [sd 10 (by decide), dc]; exact zps
        · rw [dd]; exact zps
      rw [z_call_eq, (ST.a s4 (o := 0) (k := 0) (a := 1) (by decide)), z_rd_eq, c_isFaulty i2.2.2.1, z_call_eq] at hcls
      by_cases hf : f = 0
      · subst hf
        obtain ⟨a1, a2, a3, a4⟩ := i4 rfl
        obtain ⟨M5, dm5⟩ : ∃ M5 : zM, M5 = (M4.1, zu (zu M4.2.1 0 11 (some q)) 0 12 (some q0), M4.2.2) := ⟨_, rfl⟩
        have s5 : ST M5 := by
          rw [dm5]
          exact ST.ref (M := (M4.1, zu M4.2.1 0 11 (some q), M4.2.2)) (s4.ref (by decide)) (by decide)
        have v11 : M5.2.1 0 11 = some q := by
          rw [dm5]
          show zu (zu M4.2.1 0 11 (some q)) 0 12 (some q0) 0 11 = _
          rw [zu_ne _ _ _ (by decide), zu_same]
        have v12 : M5.2.1 0 12 = some q0 := by
          rw [dm5]
          show zu (zu M4.2.1 0 11 (some q)) 0 12 (some q0) 0 12 = _
          rw [zu_same]
        have hcl2 : f_X11_law 0 (nI n) M = some (nI r', M5) := by
          rw [hcls, if_pos rfl, if_pos rfl, r11, z_rd_eq, r12', z_rd_eq, zl_eq, zl_eq]
          show z_rd (zu (zu M4.2.1 0 11 (some q)) 0 12 (some q0) 0 11) _ = _
          rw [zu_ne _ _ _ (by decide), zu_same, z_rd_eq, dm5]
          show some (M4.1 q 7, _) = _
          rw [a4.1]
        obtain ⟨W, b1, b2, b3, b4, b5, b6, b7, b8, b9⟩ := begin_ M5 s5 (by rw [dm5])
        obtain ⟨W1, g1, g2, g3, g4, g5, g6⟩ := (i5 W b2 b3 b4 b5 ⟨fun k a b => by omega, fun j hj => by omega, b6⟩).2 rfl
        have t1 := g2.st b2
        obtain ⟨W2, d2⟩ : ∃ W2 : zM, W2 = (zu (zu W1.1 54 4 0) 54 13 (nI r'), W1.2) := ⟨_, rfl⟩
        have t2 : ST W2 := by rw [d2]; exact t1.to rfl
        have c2' : ∀ c, c ≠ 54 → W2.1 c = W1.1 c := fun c hc => by
          rw [d2]
          show zu (zu W1.1 54 4 0) 54 13 (nI r') c = _
          rw [zu_cell _ _ _ hc, zu_cell _ _ _ hc]
        have e2 : ∀ j, j ≠ 4 → j ≠ 13 → W2.1 54 j = W1.1 54 j := fun j h4 h13 => by
          rw [d2]
          show zu (zu W1.1 54 4 0) 54 13 (nI r') 54 j = _
          rw [zu_ne _ _ _ h13, zu_ne _ _ _ h4]
        obtain ⟨W3, k1, k2, k3⟩ := m_95 (s := s') (by omega) (S := W2) s' zF 0 W2 (by omega) (by unfold zF; omega) t2 ((e2 10 (by decide) (by decide)).trans g3) Fr.rf (fun j hj => by omega)
        have t3 : ST W3 := k2.st t2
        obtain ⟨W4, u1, u2, u3⟩ := m_123 (r := r') a3 (S := W3) (T := W3) r' zF 0 W3 (by omega) (by unfold zF; omega) t3 (by rw [k2.c (c := 54) (by decide), e2 12 (by decide) (by decide)]; exact g6) Fr.rf (fun j hj => by omega)
        have k1' : f_X12_law_95 54 zF 0 W2 = f_X12_law_123 54 zF 0 W3 := k1
        have u1' : f_X12_law_123 54 zF 0 W3 = some (nI r', W4) := u1
        have w4 : ∀ c, c ≠ 54 → (c < 59 ∨ 69 < c) → W4.1 c = M4.1 c := fun c h54 hc => by
          rw [u2.c (by simp; omega), k2.c (by simp; omega), c2' c h54, g2.1 c (by simp; omega), b7 c h54]
        have w454 : W4.1 54 = W2.1 54 := by rw [u2.c (by decide), k2.c (by decide)]
        refine ⟨nI r', M5, W4, hcl2, ?_, ?_⟩
        · rw [b1, g1, f_X12_law_71, zl_eq, if_neg (by decide), zl_eq]
          show f_X12_law_95 54 zF 0 (zu (zu W1.1 54 4 0) 54 13 (zu W1.1 54 4 0 54 12), W1.2) = _
          rw [zu_ne _ _ _ (show (12 : Nat) ≠ 4 by decide), g6, ← d2, k1', u1']
        · refine Inv.lw (M := M) (M2 := W4) (N := N) (K := K) (B := B) (q := q) hq (u2.st t3) hR hN hC hK q4 ?_ (fun c hc h1 h54 h59 => (w4 c h54 h59).trans (m4 c h1 hc)) ?_ ?_ ?_
          · refine ⟨q, hq, ?_, ?_, s', r', by omega, a3, ?_, ?_, ?_, fun j hj => ?_⟩
            · rw [u2.2, k2.2, d2, g2.2.2, b9]; exact v11
            · rw [u2.2, k2.2, d2, g2.2.2, b9, ← hqq]; exact v12
            · rw [w4 q (by omega) (by omega)]; exact i2.2.2.2.1
            · rw [w4 q (by omega) (by omega)]; exact a4.1
            · rw [w454, d2]
              show zu (zu W1.1 54 4 0) 54 13 (nI r') 54 13 = _
              rw [zu_same]
            · obtain ⟨x1, x2, x3, x4⟩ := u3 j hj
              obtain ⟨y1, y2, y3, y4⟩ := g5 j hj
              have z : ∀ c, c = 61 ∨ c = 62 ∨ c = 63 ∨ c = 64 → W3.1 c = W1.1 c := fun c hc => by rw [k2.c (by simp; omega), c2' c (by omega)]
              rw [w4 (q + 1) (by omega) (by omega), w4 (q + 2) (by omega) (by omega), w4 (q + 3) (by omega) (by omega), w4 (q + 4) (by omega) (by omega), w4 (q + 5) (by omega) (by omega), w4 (q + 6) (by omega) (by omega)]
              refine ⟨⟨?_, ?_, ?_, ?_⟩, (a4.2 j hj).f (fun k hk => ?_)⟩
              · rw [x1, z 61 (by omega), y1]
              · rw [x2, z 62 (by omega), y2]
              · rw [x3, z 63 (by omega), y3]
              · rw [x4, z 64 (by omega), y4]
              · rw [u2.c (c := 65) (by decide), k3 k hk, c2' 59 (by decide)]
                exact g4 k (by omega) hk
          · rw [w4 1 (by omega) (by omega)]; exact m45
          · rw [w454, d2]
            show zu (zu W1.1 54 4 0) 54 13 (nI r') 54 4 = _
            rw [zu_ne _ _ _ (by decide), zu_same]
            rfl
          · rw [w454, e2 41 (by decide) (by decide), g2.2.1 41 (by decide), b8 41 (by decide) (by decide) (by decide) (by decide)]
      · have hcl2 : f_X11_law 0 (nI n) M = some (f, M4) := by
          rw [hcls, if_neg hf, if_neg (by decide), (ST.a s4 (o := 0) (k := 0) (a := 1) (by decide)), z_rd_eq, i2.2.2.1.2.2]
        obtain ⟨W, b1, b2, b3, b4, b5, b6, b7, b8, b9⟩ := begin_ M4 s4 rfl
        obtain ⟨W1, g1, g2, g3⟩ := (i5 W b2 b3 b4 b5 ⟨fun k a b => by omega, fun j hj => by omega, b6⟩).1 hf
        obtain ⟨W2, d2⟩ : ∃ W2 : zM, W2 = (zu W1.1 54 4 0, W1.2) := ⟨_, rfl⟩
        have c2' : ∀ c, c ≠ 54 → W2.1 c = W1.1 c := fun c hc => by rw [d2]; exact zpc hc
        have e2 : ∀ j, j ≠ 4 → W2.1 54 j = W1.1 54 j := fun j h4 => by rw [d2]; exact zpn h4
        have w2 : ∀ c, c ≠ 54 → (c < 59 ∨ 64 < c) → W2.1 c = M4.1 c := fun c h54 hc => by
          rw [c2' c h54, g2.1 c (by simp; omega), b7 c h54]
        have r2 : W2.2 = M4.2 := by rw [d2]; exact g2.2.2.trans b9
        refine ⟨f, M4, W2, hcl2, ?_, ?_⟩
        · rw [b1, g1, f_X12_law_71, zl_eq, if_pos rfl, ← d2, e2 7 (by decide), g3]
        · refine Inv.lw (M := M) (M2 := W2) (N := N) (K := K) (B := B) (q := q) hq (s4.to (by rw [r2])) hR hN hC hK q4 ?_ (fun c hc h1 h54 h59 => (w2 c h54 (by omega)).trans (m4 c h1 hc)) ?_ ?_ ?_
          · have z : ∀ c, c ≠ 1 → c ≠ 54 → (c < q ∨ q + 6 < c) → (c < 59 ∨ 64 < c) → W2.1 c = M.1 c := fun c h1 h54 hc h59 => (w2 c h54 h59).trans (m4 c h1 hc)
            refine ⟨q0, hq0, by rw [r2]; exact r11, by rw [r2, r12', hqd], ?_⟩
            rw [z (q0 + 1) (by omega) (by omega) (by omega) (by omega), z (q0 + 2) (by omega) (by omega) (by omega) (by omega), z (q0 + 3) (by omega) (by omega) (by omega) (by omega), z (q0 + 4) (by omega) (by omega) (by omega) (by omega), z (q0 + 5) (by omega) (by omega) (by omega) (by omega), z (q0 + 6) (by omega) (by omega) (by omega) (by omega), z q0 (by omega) (by omega) (by omega) (by omega), z 65 (by omega) (by omega) (by omega) (by omega), z 66 (by omega) (by omega) (by omega) (by omega), z 67 (by omega) (by omega) (by omega) (by omega), z 68 (by omega) (by omega) (by omega) (by omega), z 69 (by omega) (by omega) (by omega) (by omega), e2 13 (by decide), g2.2.1 13 (by decide), b8 13 (by decide) (by decide) (by decide) (by decide)]
            exact l3
          · rw [w2 1 (by omega) (by omega)]; exact m45
          · rw [d2]; exact zps
          · rw [e2 41 (by decide), g2.2.1 41 (by decide), b8 41 (by decide) (by decide) (by decide) (by decide)]
    · refine ⟨-1, M, M, ?_, ?_, hI⟩
      · rw [f_X11_law, e_win (hin M), z_call_eq, if_neg (by decide), (ST.a hS (o := 0) (k := 0) (a := 1) (by decide)), z_rd_eq, c_has q2 q1 (by omega), z_call_eq, if_neg hsz, if_pos rfl]
      · rw [f_X12_law, hin M, z_call_eq, if_neg (by decide), q3, if_neg (nI_ge (by omega) (by omega))]
  · have ha : ∀ M, f_X12_in a 1 240 M = some (0, M) := ha'
    refine ⟨-1, M, M, ?_, ?_, hI⟩
    · rw [f_X11_law, e_win (ha M), z_call_eq, if_pos rfl]
    · rw [f_X12_law, ha M, z_call_eq, if_pos rfl]
