/-! hours and tried -/
theorem LW.lq {M : zM} (h : LW M) : ∃ q L nr, LO q ∧ M.2.1 0 11 = some q ∧ LQ M q L nr ∧ LM M L nr := by
  obtain ⟨q, hq, l1, l2, nc, nr, k1, k2, k3, k4, k5, k6⟩ := h
  refine ⟨q, fun i => M.1 (65 + i), nr, hq, l1, ⟨nc, k1, k2, k3, k4, fun j hj => ?_⟩, ⟨fun i hi => rfl, k5⟩⟩
  obtain ⟨⟨a, b, c, d⟩, e⟩ := k6 j hj
  rw [a, b, c, d] at e
  exact ⟨⟨a, b, c, d⟩, e⟩
def impH : List Nat := [0, 1, 2, 9, 10, 11, 12, 13, 14, 22, 23, 24, 25, 26, 27, 30, 31, 32, 33, 34, 35, 57, 58, 65, 66, 67, 68, 69]
theorem Inv.mkH {M M2 : zM} {N' K : Nat → Nat} (hS : ST M2) (hK : KP M K) (hT : TP M) (hL : LW M) (hR : NR N') (hN : MN M2 55 N') (hC : CS M2 3 N') (e : ∀ c, c ∈ impH → M2.1 c = M.1 c) (eq : ∀ q, LO q → ∀ j, j < 9 → M2.1 q j = M.1 q j) (e54 : ∀ j, j ∉ [28, 29, 30] → M2.1 54 j = M.1 54 j) (r11 : M2.2.1 0 11 = M.2.1 0 11) (r12 : M2.2.1 0 12 = M.2.1 0 12) : Inv M2 := by
  refine ⟨N', K, hS, hR, hN, hC, hK.to (by rw [e 0 (by decide)]) (e54 41 (by decide)) (e 57 (by decide)) (fun c h1 h2 => e c (by unfold impH; simp; omega)), hT.to (by rw [e 1 (by decide)]) (e54 4 (by decide)) (e 2 (by decide)) (e 58 (by decide)), hL.to r11 r12 ?_ ⟨e 65 (by decide), e 66 (by decide), e 67 (by decide), e 68 (by decide), e 69 (by decide)⟩ (e54 13 (by decide))⟩
  intro q hq
  refine ⟨eq q hq 6 (by omega), eq q hq 7 (by omega), ?_⟩
  rcases hq with rfl | rfl
  · exact ⟨e 22 (by decide), e 23 (by decide), e 24 (by decide), e 25 (by decide), e 26 (by decide), e 27 (by decide)⟩
  · exact ⟨e 30 (by decide), e 31 (by decide), e 32 (by decide), e 33 (by decide), e 34 (by decide), e 35 (by decide)⟩
theorem CF.imp {q o : Nat} {M M' : zM} (hq : LO q) (hO : o = 3 ∨ o = 15) (h : CF q o M M') : (∀ c, c ∈ impH → M'.1 c = M.1 c) ∧ (∀ q, LO q → ∀ j, j < 9 → M'.1 q j = M.1 q j) ∧ (∀ c, 54 ≤ c → M'.1 c = M.1 c) := by
  refine ⟨fun c hc => h.1.1 c ?_, fun q' hq' j hj => ?_, fun c hc => h.1.1 c ?_⟩
  · rcases hq with rfl | rfl <;> rcases hO with rfl | rfl <;> revert c <;> decide
  · by_cases z : q' = q
    · rw [z]; exact h.2 j hj
    · rw [h.1.1 q' ?_]
      rcases hq with rfl | rfl <;> rcases hq' with rfl | rfl <;> rcases hO with rfl | rfl <;> first | exact absurd rfl z | decide
  · rcases hq with rfl | rfl <;> rcases hO with rfl | rfl <;> (unfold CFl; simp; omega)
theorem LM.e {M M' : zM} {nr : Nat} {L : Nat → Nat → Int32} (h : LM M L nr) (e : ∀ c, 54 ≤ c → M'.1 c = M.1 c) : LM M' L nr := ⟨fun i hi => (e _ (by omega)).trans (h.1 i hi), by rw [e 54 (by omega)]; exact h.2⟩
theorem e_win {x : Int32} {l n : Int32} {M : zM} {v : Int32} (h : f_X12_in x l n M = some (v, M)) : f_X11_isWithin x l n M = some (v, M) := h
theorem p_hours : ok_hours Inv := by
  intro M hI a
  obtain ⟨N, K, hS, hR, hN, hC, hK, hT, hL⟩ := id hI
  rcases inL_cases a 1 240 (by omega) (by omega) with ⟨n, n1, n2, rfl, hin'⟩ | ha'
  · have hin : ∀ M, f_X12_in (nI n) 1 240 M = some (1, M) := hin'
    obtain ⟨q, L, nr, hq, l1, hQ, hM⟩ := hL.lq
    obtain ⟨M1, i1, i2, i3⟩ := c_pass (nn := n) hq hO3 n2 hS hQ hC hR
    obtain ⟨c1, c2, c3⟩ := i3.imp hq (Or.inl rfl)
    obtain ⟨M2, j1, j2, j3⟩ := m_hoursGo (nn := n) hQ.u n2 i2.1 (hM.e c3) (hN.to (c3 55 (by omega))) hR
    have s1 := i2.1
    refine ⟨nI (gHs L nr n (N, 0, 0, 0)).2.1, M1, M2, ?_, ?_, ?_⟩
    · rw [f_X11_hours, e_win (hin M), z_call_eq, if_neg (by decide), (ST.a hS (o := 0) (k := 4) (a := 37) (by decide)), z_rd_eq, (ST.a hS (o := 0) (k := 1) (a := 3) (by decide)), z_rd_eq, l1, z_rd_eq, i1, z_call_eq, (ST.a s1 (o := 0) (k := 4) (a := 37) (by decide)), z_rd_eq, i2.2.2.2.2.2.1]
    · rw [f_X12_hours, hin M1, z_call_eq, if_neg (by decide), j1, z_call_eq, j2.2.2.2.1]
    · refine Inv.mkH (M := M) (M2 := M2) (N' := (gHs L nr n (N, 0, 0, 0)).1) j2.1 hK hT hL (gHs_R n _ hR) j2.2.2.1 (i2.2.2.2.2.1.to (fun c h1 h2 => j3.1.c (by simp; omega))) (fun c hc => (j3.1.c ?_).trans (c1 c hc)) (fun q' hq' j hj => ?_) (fun j hj => (j3.2 j hj).trans (by rw [c3 54 (by omega)])) ?_ ?_
      · revert c; decide
      · rw [j3.1.c (c := q') (by rcases hq' with rfl | rfl <;> decide)]
        exact c2 q' hq' j hj
      · rw [j3.1.2, i3.1.2 0 11 (by decide)]
      · rw [j3.1.2, i3.1.2 0 12 (by decide)]
  · have ha : ∀ M, f_X12_in a 1 240 M = some (0, M) := ha'
    refine ⟨-1, M, M, ?_, ?_, hI⟩
    · rw [f_X11_hours, e_win (ha M), z_call_eq, if_pos rfl]
    · rw [f_X12_hours, ha M, z_call_eq, if_pos rfl]
theorem p_tried : ok_tried Inv := by
  intro M hI a b
  obtain ⟨N, K, hS, hR, hN, hC, hK, hT, hL⟩ := id hI
  have hrc := room_cases (b - 100)
  rcases inL_cases a 1 240 (by omega) (by omega) with ⟨n, n1, n2, rfl, hin'⟩ | ha'
  · have hin : ∀ M, f_X12_in (nI n) 1 240 M = some (1, M) := hin'
    obtain ⟨q, L, nr, hq, l1, hQ, hM⟩ := hL.lq
    -- what both do
    obtain ⟨M0, d1, d2, d3⟩ := c_copyFrom hO15 hO3 (by decide) hS hC
    have s0 := d2.st hS
    have e0 : ∀ c, c < 15 ∨ 20 < c → M0.1 c = M.1 c := fun c hc => d2.c (by unfold shc; simp; omega)
    have hQ0 : LQ M0 q L nr := by
      obtain ⟨nc, k1, k2, k3, k4, k5⟩ := hQ
      have hq20 : 20 < q := by rcases hq with rfl | rfl <;> omega
      refine ⟨nc, k1, k2, by rw [e0 q (by omega)]; exact k3, by rw [e0 q (by omega)]; exact k4, ?_⟩
      rw [e0 (q + 1) (by omega), e0 (q + 2) (by omega), e0 (q + 3) (by omega), e0 (q + 4) (by omega), e0 (q + 5) (by omega), e0 (q + 6) (by omega)]
      exact k5
    obtain ⟨M1, i1, i2, i3⟩ := c_pass (nn := n) hq hO15 n2 s0 hQ0 d3 hR
    obtain ⟨c1, c2, c3⟩ := i3.imp hq (Or.inr rfl)
    have s1 := i2.1
    have hN1 : MN M1 55 N := hN.to ((c3 55 (by omega)).trans (e0 55 (by omega)))
    obtain ⟨M3, f1, f2, f3⟩ := m_copies (a := 55) (b := 56) (by decide) ln55 ln56 hN1
    have s3 := f2.st s1
    have hM3 : LM M3 L nr := (LM.e (LM.e hM (fun c hc => e0 c (by omega))) c3).to f2 (by decide)
    obtain ⟨M4, j1, j2, j3⟩ := m_hoursGo (nn := n) hQ.u n2 s3 hM3 (hN1.to (f2.c (by decide))) hR
    have hN4 : MN M4 56 N := f3.to (j3.1.c (by decide))
    obtain ⟨M5, g1, g2, g3⟩ := m_copies (a := 56) (b := 55) (by decide) ln56 ln55 hN4
    have s4 := j2.1
    have s5 := g2.st s4
    have tail : ∀ v, f_X12_tried_123 54 v M4 = some (v, M5) := fun v => by
      rw [f_X12_tried_123, (ST.a s4 (o := 54) (k := 1) (a := 56) (by decide)), z_rd_eq, (ST.a s4 (o := 54) (k := 0) (a := 55) (by decide)), z_rd_eq, g1, z_call_eq]
    have hI5 : Inv M5 := by
      refine Inv.mkH (M := M) (M2 := M5) (N' := N) s5 hK hT hL hR g3 (hC.to (fun c h1 h2 => ?_)) (fun c hc => ?_) (fun q' hq' j hj => ?_) (fun j hj => ?_) ?_ ?_
      · rw [g2.c (by simp; omega), j3.1.c (by simp; omega), f2.c (by simp; omega), i3.1.1 c (by rcases hq with rfl | rfl <;> (unfold CFl; simp; omega)), e0 c (by omega)]
      · rw [g2.c (by revert c; decide), j3.1.c (by revert c; decide), f2.c (by revert c; decide), c1 c hc, e0 c (by unfold impH at hc; simp at hc; omega)]
      · have : q' < 54 ∧ 20 < q' := by rcases hq' with rfl | rfl <;> omega
        rw [g2.c (by simp; omega), j3.1.c (by simp; omega), f2.c (by simp; omega), c2 q' hq' j hj, e0 q' (by omega)]
      · rw [g2.c (c := 54) (by decide), j3.2 j hj, f2.c (c := 54) (by decide), c3 54 (by omega), e0 54 (by omega)]
      · rw [g2.2, j3.1.2, f2.2, i3.1.2 0 11 (by decide), d2.2]
      · rw [g2.2, j3.1.2, f2.2, i3.1.2 0 12 (by decide), d2.2]
    have cls : ∀ (x : Int32), f_X11_tried_34 0 (nI n) x M = (if x = 0 then some (nI (gHs L nr n (N, 0, 0, 0)).2.1, M1) else if x = 1 then some (nI (gHs L nr n (N, 0, 0, 0)).2.2.1, M1) else if x = 2 then some (nI (gHs L nr n (N, 0, 0, 0)).2.2.2, M1) else if x = 3 then some (nI (g_sum (gHs L nr n (N, 0, 0, 0)).1 24 24), M1) else if z_ix (x - 100) 24 = true then some (M1.1 20 (x - 100).toNatClampNeg, M1) else none) ∧ (f_X12_tried_32 54 (nI n) x M1 = (if x = 0 then some (nI (gHs L nr n (N, 0, 0, 0)).2.1, M5) else if x = 1 then some (nI (gHs L nr n (N, 0, 0, 0)).2.2.1, M5) else if x = 2 then some (nI (gHs L nr n (N, 0, 0, 0)).2.2.2, M5) else if x = 3 then some (nI (g_sum (gHs L nr n (N, 0, 0, 0)).1 24 24), M5) else z_call (f_X12_feltIn 54 (x - 100) M4) fun v_19 M_20 => f_X12_tried_123 54 v_19 M_20)) := by
      intro x
      refine ⟨?_, ?_⟩
      · rw [f_X11_tried_34, (ST.a hS (o := 0) (k := 3) (a := 15) (by decide)), z_rd_eq, (ST.a hS (o := 0) (k := 1) (a := 3) (by decide)), z_rd_eq, d1, z_call_eq, (ST.a s0 (o := 0) (k := 4) (a := 37) (by decide)), z_rd_eq, (ST.a s0 (o := 0) (k := 3) (a := 15) (by decide)), z_rd_eq, d2.2, l1, z_rd_eq, i1, z_call_eq, (ST.a s1 (o := 0) (k := 4) (a := 37) (by decide)), z_rd_eq, z_rd_eq, z_rd_eq, (ST.a s1 (o := 0) (k := 3) (a := 15) (by decide)), z_rd_eq, z_rd_eq, (ST.a s1 (o := 15) (k := 0) (a := 16) (by decide)), z_rd_eq, (ST.a s1 (o := 15) (k := 4) (a := 20) (by decide)), z_rd_eq, c_sumOf (M := M1) (a := 16) (b := 24) (N := (gHs L nr n (N, 0, 0, 0)).1) rfl i2.2.2.2.2.1.1, z_call_eq, i2.2.2.2.2.2.1, i2.2.2.2.2.2.2.1, i2.2.2.2.2.2.2.2, show z_ln SH 20 = 24 from rfl]
      · rw [f_X12_tried_32, (ST.a s1 (o := 54) (k := 0) (a := 55) (by decide)), z_rd_eq, (ST.a s1 (o := 54) (k := 1) (a := 56) (by decide)), z_rd_eq, f1, z_call_eq, j1, z_call_eq, zl_eq, zl_eq, zl_eq, j2.2.2.2.1, j2.2.2.2.2.1, j2.2.2.2.2.2, tail, tail, tail, show (24 : Int32) = nI 24 from rfl, m_sumOf s4 j2.2.2.1 (by omega), z_call_eq, tail]
    rcases f_in_cases b 3 (by omega) with ⟨k, hk, rfl⟩ | hb
    · have hroom : ∃ w, f_X11_isRoom (nI k - 100) M = some (w, M) := by
        rcases hrc with ⟨j, hj, e⟩ | h
        · exact ⟨1, by rw [e]; exact e_room hj M⟩
        · exact ⟨0, (h M).1⟩
      obtain ⟨w, hw⟩ := hroom
      have hd1 : f_X11_tried 0 (nI n) (nI k) M = f_X11_tried_34 0 (nI n) (nI k) M := by
        rw [f_X11_tried, hw, z_call_eq, e_win (hin M), z_call_eq, if_neg (by decide), e_win (show f_X12_in (nI k) 0 3 M = some (1, M) from e_in1 (n := 3) (by omega) hk M), z_call_eq, if_neg (by decide)]
      have hd2 : f_X12_tried 54 (nI n) (nI k) M1 = f_X12_tried_32 54 (nI n) (nI k) M1 := by
        rw [f_X12_tried, hin M1, z_call_eq, if_neg (by decide), show f_X12_in (nI k) 0 3 M1 = some (1, M1) from e_in1 (n := 3) (by omega) hk M1, z_call_eq, if_neg (by decide)]
      obtain ⟨x1, x2⟩ := cls (nI k)
      rcases (show k = 0 ∨ k = 1 ∨ k = 2 ∨ k = 3 by omega) with rfl | rfl | rfl | rfl
      · exact ⟨_, M1, M5, by rw [hd1, x1, if_pos (by decide)], by rw [hd2, x2, if_pos (by decide)], hI5⟩
      · exact ⟨_, M1, M5, by rw [hd1, x1, if_neg (by decide), if_pos (by decide)], by rw [hd2, x2, if_neg (by decide), if_pos (by decide)], hI5⟩
      · exact ⟨_, M1, M5, by rw [hd1, x1, if_neg (by decide), if_neg (by decide), if_pos (by decide)], by rw [hd2, x2, if_neg (by decide), if_neg (by decide), if_pos (by decide)], hI5⟩
      · exact ⟨_, M1, M5, by rw [hd1, x1, if_neg (by decide), if_neg (by decide), if_neg (by decide), if_pos (by decide)], by rw [hd2, x2, if_neg (by decide), if_neg (by decide), if_neg (by decide), if_pos (by decide)], hI5⟩
    · have ne : ∀ c, c ≤ 3 → ¬ b = nI c := by
        intro c hc e
        rw [e] at hb
        rcases hb with h | h
        · exact nI_pos (by omega) h
        · exact nI_nlt hc (by omega) h
      have hb0 : ∀ M', f_X12_in b 0 3 M' = some (0, M') := fun M' => e_in0 (n := 3) (by omega) hb M'
      rcases hrc with ⟨j, hj, e⟩ | h
      · have hd1 : f_X11_tried 0 (nI n) b M = f_X11_tried_34 0 (nI n) b M := by
          rw [f_X11_tried, e, e_room hj, z_call_eq, e_win (hin M), z_call_eq, if_neg (by decide), e_win (hb0 M), z_call_eq, if_pos rfl, if_neg (by decide)]
        have hd2 : f_X12_tried 54 (nI n) b M1 = f_X12_tried_32 54 (nI n) b M1 := by
          rw [f_X12_tried, hin M1, z_call_eq, if_neg (by decide), hb0 M1, z_call_eq, if_pos rfl, e, e_room2 hj, z_call_eq, if_neg (by decide)]
        obtain ⟨x1, x2⟩ := cls b
        have c20 : M1.1 20 j = nI (g_sum (gHs L nr n (N, 0, 0, 0)).1 (120 + 24 * j) 24) := i2.2.2.2.2.1.2.2.2.2.1 j hj
        refine ⟨nI (g_sum (gHs L nr n (N, 0, 0, 0)).1 (120 + 24 * j) 24), M1, M5, ?_, ?_, hI5⟩
        · rw [hd1, x1, if_neg (show ¬ b = (0 : Int32) from ne 0 (by omega)), if_neg (show ¬ b = (1 : Int32) from ne 1 (by omega)), if_neg (show ¬ b = (2 : Int32) from ne 2 (by omega)), if_neg (show ¬ b = (3 : Int32) from ne 3 (by omega)), e, if_pos (by rw [z_ixN (by omega)]; exact hj), nI_clamp (by omega), c20]
        · rw [hd2, x2, if_neg (show ¬ b = (0 : Int32) from ne 0 (by omega)), if_neg (show ¬ b = (1 : Int32) from ne 1 (by omega)), if_neg (show ¬ b = (2 : Int32) from ne 2 (by omega)), if_neg (show ¬ b = (3 : Int32) from ne 3 (by omega)), e, m_feltIn s4 j2.2.2.1 hj, z_call_eq, tail]
      · refine ⟨-1, M, M, ?_, ?_, hI⟩
        · rw [f_X11_tried, (h M).1, z_call_eq, e_win (hin M), z_call_eq, if_neg (by decide), e_win (hb0 M), z_call_eq, if_pos rfl, if_pos rfl]
        · rw [f_X12_tried, hin M, z_call_eq, if_neg (by decide), hb0 M, z_call_eq, if_pos rfl, (h M).2, z_call_eq, if_pos rfl]
  · have ha : ∀ M, f_X12_in a 1 240 M = some (0, M) := ha'
    have hroom : ∃ w, f_X11_isRoom (b - 100) M = some (w, M) := by
      rcases hrc with ⟨j, hj, e⟩ | h
      · exact ⟨1, by rw [e]; exact e_room hj M⟩
      · exact ⟨0, (h M).1⟩
    obtain ⟨w, hw⟩ := hroom
    refine ⟨-1, M, M, ?_, ?_, hI⟩
    · rw [f_X11_tried, hw, z_call_eq, e_win (ha M), z_call_eq, if_pos rfl]
    · rw [f_X12_tried, ha M, z_call_eq, if_pos rfl]
