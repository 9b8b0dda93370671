/-! sleep: the promise -/
theorem Inv.scrL {M M2 : zM} {N K : Nat → Nat} {l : List Nat} (hS : ST M) (hR : NR N) (hN : MN M 55 N) (hC : CS M 3 N) (hK : KP M K) (hL : LW M) (hF : FrL l M M2) (hl : ∀ c ∈ impC, c ∉ l) (hT : TP M2) (e13 : M2.1 54 13 = M.1 54 13) (e41 : M2.1 54 41 = M.1 54 41) : Inv M2 := by
  obtain ⟨a, b, c⟩ := M
  obtain ⟨a', b', c'⟩ := M2
  obtain rfl : b' = b := hF.2
  exact (Inv.scr (M2 := (a', b', c)) hS hR hN hC hK hL ⟨hF.1, rfl⟩ hl hT e13 e41).lng rfl rfl
theorem m_bits0 (M : zM) : f_X12_bits 0 M = some (nI 0, M) := (m_bits (g := 0) (by omega) M).trans (by rw [show pc 0 24 = 0 from by decide])
theorem p_sleep : ok_sleep Inv := by
  intro M hI a b c
  obtain ⟨N, K, hS, hR, hN, hC, hK, hT, hL⟩ := id hI
  obtain ⟨s, B, q1, q2, q3, q4⟩ := hT.get
  have dull : f_X11_sleep 0 a b c M = some (-1, M) → f_X12_sleep 54 a b c M = some (-1, M) → ∃ (v : Int64) (M1 M2 : zM), f_X11_sleep 0 a b c M = some (v, M1) ∧ f_X12_sleep 54 a b c M1 = some (v, M2) ∧ Inv M2 := fun h1 h2 => ⟨-1, M, M, h1, h2, hI⟩
  rcases inL_cases a 1 6 (by omega) (by omega) with ⟨n, hn1, hn, rfl, hin⟩ | ha
  · rcases f_in_cases b 16777215 (by omega) with ⟨R, hRR, rfl⟩ | hb
    · have hR24 : R < 2 ^ 24 := by omega
      have c1 : f_X11_sleep 0 (nI n) (nI R) c M = if pc R 24 = n then (if c = 100 then (f_X11_sleep_49 0 (nI n) (nI R) c M) else z_call (f_X11_isWithin c 0 (nI (n - 1)) M) fun v_14 M_15 => (if v_14 = 0 then some ((-1), M_15) else (f_X11_sleep_49 0 (nI n) (nI R) c M_15))) else some (-1, M) := by
        rw [f_X11_sleep, e_within, show f_X12_in (nI n) 1 6 M = some (1, M) from hin M, z_call_eq, if_neg (by decide), e_within, show f_X12_in (nI R) 0 16777215 M = some (1, M) from e_in1 (n := 16777215) (by omega) hRR M, z_call_eq, if_neg (by decide), c_bitCount hR24, z_call_eq, show nI n - 1 = nI (n - 1) from nI_sub (b := 1) (by omega)]
        have := pc_le R 24
        by_cases z : pc R 24 = n
        · rw [if_pos (by rw [z]), if_pos z]
        · rw [if_neg (fun h => z ((nI_eq (by omega) (by omega)).mp h)), if_neg z]
      have m1 : ∀ M', f_X12_sleep 54 (nI n) (nI R) c M' = if pc R 24 = n then (if c = 100 then (f_X12_sleep_46 54 (nI n) (nI R) c M') else z_call (f_X12_in c 0 (nI (n - 1)) M') fun v_14 M_15 => (if v_14 = 0 then some ((-1), M_15) else (f_X12_sleep_46 54 (nI n) (nI R) c M_15))) else some (-1, M') := by
        intro M'
        by_cases z0 : R = 0
        · rw [z0, show pc 0 24 = 0 from by decide, if_neg (by omega), f_X12_sleep, show f_X12_in (nI n) 1 6 M' = some (1, M') from hin M', z_call_eq, if_neg (by decide), show f_X12_in (nI 0) 1 16777215 M' = some (0, M') from by rw [f_X12_in, if_pos (by decide)], z_call_eq, if_pos rfl]
        · have hi1 : f_X12_in (nI R) 1 16777215 M' = some (1, M') := by
            rw [f_X12_in, if_neg (show ¬ nI R < (1 : Int32) from nI_nlt (b := 1) (by omega) (by omega)), if_neg (show ¬ (16777215 : Int32) < nI R from nI_nlt (a := 16777215) hRR (by omega))]
          rw [f_X12_sleep, show f_X12_in (nI n) 1 6 M' = some (1, M') from hin M', z_call_eq, if_neg (by decide), hi1, z_call_eq, if_neg (by decide), m_bits (by omega), z_call_eq, show nI n - 1 = nI (n - 1) from nI_sub (b := 1) (by omega)]
          have := pc_le R 24
          by_cases z : pc R 24 = n
          · rw [if_pos (by rw [z]), if_pos z]
          · rw [if_neg (fun h => z ((nI_eq (by omega) (by omega)).mp h)), if_neg z]
      by_cases hpc : pc R 24 = n
      · rw [if_pos hpc] at c1
        have m2 : ∀ M', f_X12_sleep 54 (nI n) (nI R) c M' = (if c = 100 then (f_X12_sleep_46 54 (nI n) (nI R) c M') else z_call (f_X12_in c 0 (nI (n - 1)) M') fun v_14 M_15 => (if v_14 = 0 then some ((-1), M_15) else (f_X12_sleep_46 54 (nI n) (nI R) c M_15))) := fun M' => by rw [m1, if_pos hpc]
        rcases w100_cases c (n - 1) (by omega) with ⟨w, hw⟩ | ⟨hw1, hw2⟩
        · have hx : c = 100 ∨ ∃ j, j < n ∧ c = nI j := by
            rcases hw with h | ⟨h1, h2⟩
            · exact Or.inl h
            · exact Or.inr ⟨w, by omega, h1⟩
          have c3 : f_X11_sleep 0 (nI n) (nI R) c M = f_X11_sleep_49 0 (nI n) (nI R) c M := by
            rw [c1]
            by_cases h : c = 100
            · rw [if_pos h]
            · rcases hw with h' | ⟨h1, h2⟩
              · exact absurd h' h
              · rw [if_neg h, e_within, h1, e_in1 (by omega) (by omega), z_call_eq, if_neg (by decide)]
          have m3 : ∀ M', f_X12_sleep 54 (nI n) (nI R) c M' = f_X12_sleep_46 54 (nI n) (nI R) c M' := by
            intro M'
            rw [m2]
            by_cases h : c = 100
            · rw [if_pos h]
            · rcases hw with h' | ⟨h1, h2⟩
              · exact absurd h' h
              · rw [if_neg h, h1, e_in1 (by omega) (by omega), z_call_eq, if_neg (by decide)]
          by_cases hs : n ≤ s
          · have s1 : ST (tkM M n) := hS.to rfl
            have t1 : TB (tkM M n) B := q4.tk
            obtain ⟨M1, a1, a2, a3, a4⟩ := c_share (M := tkM M n) (N := N) (B := B) (R := R) (n := n) s1 (hC.to (fun d h1 h2 => tkM_fr.1 d (by simp; omega))) hR t1 tkM_cr.1 hR24 hn hpc
            have s2 := a2.st s1
            obtain ⟨hlen, M2, b1, b2, b3⟩ := m_sleep46 (M := M1) (N := N) (B := B) (R := R) (n := n) (s := s) (x3 := c) s2 ((hN.to (tkM_fr.1 55 (by decide))).to (a2.1 55 (by decide))) hR (t1.to (a2.1 2 (by decide)) (a2.1 58 (by decide))) (by rw [a2.1 54 (by decide), tkM_fr.1 54 (by decide)]; exact q3) q1 hs hR24 hn hn1 hpc hx
            refine ⟨slA (bsC B (fbf N R 24) n) c, M1, M2, ?_, (m3 M1).trans b1, ?_⟩
            · rw [c3, f_X11_sleep_49, (ST.a hS (o := 0) (k := 0) (a := 1) (by decide)), z_rd_eq, c_has q2 q1 (by omega), if_pos hs, z_call_eq, if_neg (by decide), (ST.a hS (o := 0) (k := 0) (a := 1) (by decide)), z_rd_eq, c_take hS (by omega), z_call_eq, (ST.a s1 (o := 0) (k := 9) (a := 47) (by decide)), z_rd_eq, (ST.a s1 (o := 0) (k := 0) (a := 1) (by decide)), z_rd_eq, (ST.a s1 (o := 0) (k := 1) (a := 3) (by decide)), z_rd_eq, a1, z_call_eq]
              unfold slA
              rcases hx with rfl | ⟨j, hj, rfl⟩
              · rw [if_pos rfl, if_pos rfl, (ST.a s2 (o := 0) (k := 9) (a := 47) (by decide)), z_rd_eq, a3]
              · rw [if_neg (fun h => by have := (nI_eq (b := 100) (by omega) (by omega)).mp h; omega), if_neg (fun h => by have := (nI_eq (b := 100) (by omega) (by omega)).mp h; omega), (ST.a s2 (o := 0) (k := 9) (a := 47) (by decide)), z_rd_eq, (ST.a s2 (o := 47) (k := 3) (a := 51) (by decide)), z_rd_eq, ln51, if_pos (by rw [z_ixN (by omega)]; omega), nI_clamp (by omega), a4 j (by omega)]
            · have fL : FrL [1, 47, 48, 49, 50, 51, 54, 76, 77, 78] M M2 := ((tkM_fr.L.mono (by decide)).tr (a2.mono (by decide))).tr (b2.1.L.mono (by decide))
              refine Inv.scrL hS hR hN hC hK hL fL (by decide) (TP.put (n := 0) (B := B) (by omega) ?_ b3 (q4.to (fL.1 2 (by decide)) (fL.1 58 (by decide)))) ?_ ?_
              · rw [b2.1.1 1 (by decide), a2.1 1 (by decide)]; exact tkM_1
              · rw [b2.2 13 (by decide), a2.1 54 (by decide), tkM_fr.1 54 (by decide)]
              · rw [b2.2 41 (by decide), a2.1 54 (by decide), tkM_fr.1 54 (by decide)]
          · refine dull ?_ ?_
            · rw [c3, f_X11_sleep_49, (ST.a hS (o := 0) (k := 0) (a := 1) (by decide)), z_rd_eq, c_has q2 q1 (by omega), if_neg hs, z_call_eq, if_pos rfl]
            · rw [m3, f_X12_sleep_46, q3, if_neg (nI_ge (by omega) (by omega))]
        · refine dull ?_ ?_
          · rw [c1, if_neg hw1, e_within, e_in0 (by omega) hw2, z_call_eq, if_pos rfl]
          · rw [m2, if_neg hw1, e_in0 (by omega) hw2, z_call_eq, if_pos rfl]
      · exact dull (by rw [c1, if_neg hpc]) (by rw [m1, if_neg hpc])
    · refine dull ?_ ?_
      · rw [f_X11_sleep, e_within, show f_X12_in (nI n) 1 6 M = some (1, M) from hin M, z_call_eq, if_neg (by decide), e_within, show f_X12_in b 0 16777215 M = some (0, M) from e_in0 (n := 16777215) (by omega) hb M, z_call_eq, if_pos rfl]
      · have hi0 : f_X12_in b 1 16777215 M = some (0, M) := by
          rw [f_X12_in]
          by_cases h1 : b < 1
          · rw [if_pos h1]
          · rw [if_neg h1]
            rcases hb with h | h
            · exact absurd (Int32.lt_of_lt_of_le h (by decide)) h1
            · rw [if_pos (show (16777215 : Int32) < b from h)]
        rw [f_X12_sleep, show f_X12_in (nI n) 1 6 M = some (1, M) from hin M, z_call_eq, if_neg (by decide), hi0, z_call_eq, if_pos rfl]
  · refine dull ?_ ?_
    · rw [f_X11_sleep, e_within, show f_X12_in a 1 6 M = some (0, M) from ha M, z_call_eq, if_pos rfl]
    · rw [f_X12_sleep, show f_X12_in a 1 6 M = some (0, M) from ha M, z_call_eq, if_pos rfl]
