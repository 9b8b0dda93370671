/-! registers: the promise -/
theorem TP.took {M M2 : zM} {B : Nat → Nat} {l : List Nat} (hB : TB M B) (hF : FX l M M2) (h2 : 2 ∉ l) (h58 : 58 ∉ l) (h1 : M2.1 1 1 = nI 0) (h4 : M2.1 54 4 = nI 0) : TP M2 := TP.put (n := 0) (B := B) (by omega) h1 h4 (hB.to (hF.1 2 h2) (hF.1 58 h58))
theorem p_register : ok_register Inv := by
  intro M hI a
  obtain ⟨N, K, hS, hR, hN, hC, hK, hT, hL⟩ := id hI
  obtain ⟨s, B, q1, q2, q3, q4⟩ := hT.get
  rcases inL_cases a 1 120 (by omega) (by omega) with ⟨n, hn1, hn, rfl, hin⟩ | ha
  · by_cases hs : n ≤ s
    · have s0 : ST (tkM M n) := hS.to rfl
      have hO3 : SO 3 := Or.inl rfl
      have c0 : CS (tkM M n) 3 N := hC.to (fun c h1 h2 => tkM_fr.1 c (by simp; omega))
      obtain ⟨M1, a1, a2, a3⟩ := c_copyFrom (o := 15) (p := 3) hO15 hO3 (by decide) s0 c0
      have s1 := a2.st s0
      have fx1 : FX rgC M1 (M1.1, zu M1.2.1 39 1 (some 15), M1.2.2) := FX.ref (by decide)
      have s2 := fx1.st s1
      have t2 : TB (M1.1, zu M1.2.1 39 1 (some 15), M1.2.2) B := q4.tk.to (a2.1 2 (by decide)) (a2.1 58 (by decide))
      have r2 : CR (M1.1, zu M1.2.1 39 1 (some 15), M1.2.2) n 0 0 := CR.fr (M := tkM M n) (M' := M1) tkM_cr a2 (by decide)
      obtain ⟨v, M3, b1, b2, b3, b4, b5⟩ := c_rg (B := B) (e := n) (by omega) 20 zF N 0 (M1.1, zu M1.2.1 39 1 (some 15), M1.2.2) (by omega) (by unfold zF; omega) (by omega) s2 (zu_same M1.2.1 39 1 _) t2 r2 a3 hR
      have s3 := b2.st s2
      have fx3 : FX rgC M M3 := ((tkM_fr.X.mono (by decide)).tr ((shc_rg a2).X.tr fx1)).tr b2.X
      have hRg := rgo_R (B := B) (e := n) (by omega) 20 N 0 (by omega) hR (by omega)
      have e11 : M3.1 1 1 = nI 0 := by rw [b4]; show M1.1 1 1 = _; rw [a2.1 1 (by decide)]; exact tkM_1
      -- the class's end, and the reference from there
      have hcls : ∃ M4, f_X11_register 0 (nI n) M = some (if (rgo B n 20 N 0).2.2.1 = 0 then nI (rgo B n 20 N 0).2.2.2 else (rgo B n 20 N 0).2.2.1, M4) ∧ FX [1, 3, 4, 5, 6, 7, 8, 15, 16, 17, 18, 19, 20] M M4 ∧ M4.1 1 1 = nI 0 ∧ CS M4 3 (if (rgo B n 20 N 0).2.2.1 = 0 then (rgo B n 20 N 0).1 else N) := by
        have hd : f_X11_register 0 (nI n) M = z_call (f_X10_isFaulty 1 M3) fun v_25 M_26 => (if v_25 = 0 then z_rd (M_26.2.1 0 1) fun a_29 => z_rd (M_26.2.1 0 3) fun a_30 => z_call (f_X8_copyFrom a_29 a_30 M_26) fun v_31 M_32 => some (v, M_32) else z_rd (M_26.2.1 0 0) fun a_34 => some ((M_26.1 a_34 4), M_26)) := by
          rw [f_X11_register, e_within, show f_X12_in (nI n) 1 120 M = some (1, M) from hin M, z_call_eq, if_neg (by decide), (ST.a hS (o := 0) (k := 0) (a := 1) (by decide)), z_rd_eq, c_has q2 q1 (by omega), if_pos hs, z_call_eq, if_neg (by decide), (ST.a hS (o := 0) (k := 0) (a := 1) (by decide)), z_rd_eq, c_take hS (by omega), z_call_eq, (ST.a s0 (o := 0) (k := 3) (a := 15) (by decide)), z_rd_eq, (ST.a s0 (o := 0) (k := 1) (a := 3) (by decide)), z_rd_eq, a1, z_call_eq, (ST.a s1 (o := 0) (k := 6) (a := 39) (by decide)), z_rd_eq, (ST.a s1 (o := 0) (k := 3) (a := 15) (by decide)), z_rd_eq, f_X6_read, zl_eq, show f_X6_read_7 39 zF 1 (M1.1, zu M1.2.1 39 1 (some 15), M1.2.2) = some (v, M3) from b1, z_call_eq, (ST.a s3 (o := 0) (k := 0) (a := 1) (by decide)), z_rd_eq]
        rw [hd, c_isFaulty b3, z_call_eq]
        by_cases z : (rgo B n 20 N 0).2.2.1 = 0
        · obtain ⟨k1, k2⟩ := b5 z
          obtain ⟨M4, c1, c2, c3⟩ := c_copyFrom (o := 3) (p := 15) hO3 hO15 (by decide) s3 k2
          refine ⟨M4, ?_, (fx3.mono (by decide)).tr (c2.X.mono (by decide)), by rw [c2.1 1 (by decide)]; exact e11, ?_⟩
          · rw [if_pos z, if_pos rfl, (ST.a s3 (o := 0) (k := 1) (a := 3) (by decide)), z_rd_eq, (ST.a s3 (o := 0) (k := 3) (a := 15) (by decide)), z_rd_eq, c1, z_call_eq, if_pos z, k1]
          · rw [if_pos z]; exact c3
        · refine ⟨M3, ?_, fx3.mono (by decide), e11, ?_⟩
          · rw [if_neg z, if_neg (by decide), (ST.a s3 (o := 0) (k := 0) (a := 1) (by decide)), z_rd_eq, if_neg z, b3.2.2]
          · rw [if_neg z]
            exact hC.to (fun c h1 h2 => fx3.1 c (by unfold rgC; simp; omega))
      obtain ⟨M4, d1, d2, d3, d4⟩ := hcls
      have s4 := d2.st hS
      have x5 : MX [54] [5, 6, 10, 12, 27] M4 (zu (bgM M4 n).1 54 27 0, (bgM M4 n).2) := (bgM_mx.mono (by decide) (by decide)).tr (MX.s54 (by simp) (by simp))
      have s5 := x5.1.st s4
      obtain ⟨M6, f1, f2, f3⟩ := m_copies (M := (zu (bgM M4 n).1 54 27 0, (bgM M4 n).2)) (a := 55) (b := 56) (N := N) (by decide) ln55 ln56 ((hN.to (d2.1 55 (by decide))).to (x5.1.1 55 (by decide)))
      have s6 := f2.st s5
      have t6 : TB M6 B := q4.to (by rw [f2.1 2 (by decide), x5.1.1 2 (by decide), d2.1 2 (by decide)]) (by rw [f2.1 58 (by decide), x5.1.1 58 (by decide), d2.1 58 (by decide)])
      have r6 : MR M6 n 0 := by
        have : MR (zu (bgM M4 n).1 54 27 0, (bgM M4 n).2) n 0 := bgM_mr.to (zu_ne (bgM M4 n).1 54 (j := 27) (j' := 5) 0 (by decide)) (zu_ne (bgM M4 n).1 54 (j := 27) (j' := 6) 0 (by decide))
        unfold MR
        rw [f2.1 54 (by decide)]
        exact this
      obtain ⟨M7, g1, g2, g3, g4⟩ := m_rg (B := B) (N0 := N) (e := n) (by omega) 20 zF N 0 M6 (by omega) (by unfold zF; omega) (by omega) s6 t6 r6 (by rw [f2.1 54 (by decide)]; exact zu_same (bgM M4 n).1 54 27 0) (by
          intro k hk
          rw [f2.1 55 (by decide), x5.1.1 55 (by decide), d2.1 55 (by decide)]
          exact hN k hk) hR f3
      refine ⟨_, M4, M7, d1, ?_, ?_⟩
      · rw [f_X12_register, show f_X12_in (nI n) 1 120 M4 = some (1, M4) from hin M4, z_call_eq, if_neg (by decide), d2.1 54 (by decide), q3, if_pos ((nI_leI (by omega) (by omega)).mpr hs), m_begins, z_call_eq, zl_eq, (ST.a s5 (o := 54) (k := 0) (a := 55) (by decide)), z_rd_eq, (ST.a s5 (o := 54) (k := 1) (a := 56) (by decide)), z_rd_eq, f1, z_call_eq]
        exact g1
      · have fx7 : FX [1, 3, 4, 5, 6, 7, 8, 15, 16, 17, 18, 19, 20, 54, 55, 56] M M7 := (((d2.mono (by decide)).tr (x5.1.X.mono (by decide))).tr (f2.X.mono (by decide))).tr (g2.1.X.mono (by decide))
        have fA : ∀ c, c ∉ [54, 55, 56] → M7.1 c = M4.1 c := fun c hc => by
          simp at hc
          rw [g2.1.1 c (by simp; omega), f2.1 c (by simp; omega), x5.1.1 c (by simp; omega)]
        have e54 : ∀ j, j ∉ [4, 5, 6, 7, 8, 10, 12, 27] → M7.1 54 j = M.1 54 j := fun j hj => by
          simp at hj
          rw [g2.2 j (by simp; omega), f2.1 54 (by decide), x5.2 j (by simp; omega), d2.1 54 (by decide)]
        refine Inv.mkX hS hK hL fx7 (by decide) (N' := if (rgo B n 20 N 0).2.2.1 = 0 then (rgo B n 20 N 0).1 else N) ?_ g4 (d4.to (fun c h1 h2 => fA c (by simp; omega))) (TP.took q4 fx7 (by decide) (by decide) (by rw [fA 1 (by decide)]; exact d3) g3) (e54 13 (by decide)) (e54 41 (by decide))
        by_cases z : (rgo B n 20 N 0).2.2.1 = 0
        · rw [if_pos z]; exact hRg z
        · rw [if_neg z]; exact hR
    · refine ⟨-1, M, M, ?_, ?_, hI⟩
      · rw [f_X11_register, e_within, show f_X12_in (nI n) 1 120 M = some (1, M) from hin M, z_call_eq, if_neg (by decide), (ST.a hS (o := 0) (k := 0) (a := 1) (by decide)), z_rd_eq, c_has q2 q1 (by omega), if_neg hs, z_call_eq, if_pos rfl]
      · rw [f_X12_register, show f_X12_in (nI n) 1 120 M = some (1, M) from hin M, z_call_eq, if_neg (by decide), q3, if_neg (nI_ge (by omega) (by omega))]
  · refine ⟨-1, M, M, ?_, ?_, hI⟩
    · rw [f_X11_register, e_within, show f_X12_in a 1 120 M = some (0, M) from ha M, z_call_eq, if_pos rfl]
    · rw [f_X12_register, show f_X12_in a 1 120 M = some (0, M) from ha M, z_call_eq, if_pos rfl]
