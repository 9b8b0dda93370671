/-! the whole text of taps -/
theorem m_end {M : zM} {what x3 : Int32} : f_X12_taps_89 54 what 0 M = some (M.1 54 7, (zu M.1 54 4 0, M.2)) := by
  rw [f_X12_taps_89, zl_eq, if_pos rfl]
  show some (zu M.1 54 4 0 54 7, _) = _
  rw [zu_ne _ _ _ (by decide)]
theorem m_end1 {M : zM} {t w : Nat} {what : Int32} (hS : ST M) (h40 : M.1 54 40 = nI t) (ht : t ≤ 20) (hw : what = 100 ∨ (what = nI w ∧ w < 20)) : f_X12_taps_89 54 what 1 M = some (if what = 100 then nI t else if t ≤ w then -4 else M.1 80 w, (zu M.1 54 4 0, M.2)) := by
  rw [f_X12_taps_89, zl_eq, if_neg (by decide)]
  show (if what = 100 then some (zu M.1 54 4 0 54 40, (zu M.1 54 4 0, M.2)) else if zu M.1 54 4 0 54 40 ≤ what then some ((-4), (zu M.1 54 4 0, M.2)) else z_rd (M.2.1 54 39) fun a_5 => if z_ix what (z_ln SH a_5) = true then some (zu M.1 54 4 0 a_5 (what : Int32).toNatClampNeg, (zu M.1 54 4 0, M.2)) else none) = _
  rw [zu_ne _ _ _ (by decide), h40]
  by_cases h1 : what = 100
  · rw [if_pos h1, if_pos h1]
  · rcases hw with hw | ⟨hw, hw2⟩
    · exact absurd hw h1
    · rw [if_neg h1, if_neg h1, hw]
      by_cases h2 : t ≤ w
      · rw [if_pos ((nI_leI (by omega) (by omega)).mpr h2), if_pos h2]
      · rw [if_neg (fun q => h2 ((nI_leI (by omega) (by omega)).mp q)), if_neg h2, (ST.a hS (o := 54) (k := 39) (a := 80) (by decide)), z_rd_eq, if_pos (by rw [z_ixN (by omega), show z_ln SH 80 = 20 by decide]; exact hw2), nI_clamp (by omega), zu_cell _ _ _ (by decide)]
theorem c_readF {M : zM} {e p t n : Nat} {f what x3 : Int32} (hr : CR M e p f) (hf : f ≠ 0) (ht : t < 60) : ∃ w, f_X9_read_8 1 what (n + 1) (nI t) x3 (nI t) M = some (w, M) := by
  obtain ⟨v, hv⟩ := c_readLetterF hr hf
  rw [f_X9_read_8, if_neg (show ¬ (60 : Int32) ≤ nI t from nI_ge (b := 60) (by omega) (by omega)), hv, z_call_eq]
  have h2 : ∀ x, ∃ w, f_X9_read_29 1 what (f_X9_read_8 1 what n) (nI t) x (nI t) M = some (w, M) := by
    intro x
    rw [f_X9_read_29, zl_eq, c_isOverF hr hf, z_call_eq, if_neg (by decide), f_X9_read_52]
    by_cases h : what = 100
    · rw [if_pos h]; exact ⟨_, rfl⟩
    · rw [if_neg h]; exact ⟨_, rfl⟩
  by_cases h : nI t = what
  · rw [if_pos h]; exact h2 _
  · rw [if_neg h]; exact h2 _
theorem taps_lp {M : zM} {B : Nat → Nat} {e w : Nat} {what : Int32} (hS : ST M) (hB : TB M B) (he : e ≤ 60) (hC : CR M e 0 0) (hw : what = 100 ∨ (what = nI w ∧ w < 20)) : ∀ m t n nn p (M2 : zM) (x3 : Int32), e + 5 ≤ p + 5 * m → m + 1 < n → 2 * m + 2 < nn → 5 * t ≤ p → p ≤ e → ST M2 → TB M2 B → MR M2 e p → M2.1 54 40 = nI t → (what = 100 ∨ x3 = if t ≤ w then -4 else M2.1 80 w) → ∃ v v' p' f M2', f_X9_read_8 1 what n (nI t) x3 (nI t) (tpM M p 0) = some (v', tpM M p' f) ∧ (∀ r A, f_X12_readsLetter 54 M2 = some (r, A) → f_X12_taps_51 54 what nn r A = some (v, M2')) ∧ MX [54, 80] [4, 5, 7, 8, 40] M2 M2' ∧ M2'.1 54 4 = 0 ∧ (if f = 0 then v' = v else f = v) := by
  intro m
  induction m with
  | zero => intro t n nn p M2 x3 h1 h2 h3 h4 h5; omega
  | succ m ih =>
    intro t n nn p M2 x3 h1 h2 h3 h4 h5 hS2 hB2 hr h40 hx3
    obtain ⟨n, rfl⟩ : ∃ m, n = m + 1 := ⟨n - 1, by omega⟩
    obtain ⟨nn, rfl⟩ : ∃ m, nn = m + 1 := ⟨nn - 1, by omega⟩
    obtain ⟨lv, p', f, A, l1, l2, ⟨l3, l4⟩, l5⟩ := j_letter (M := tpM M p 0) (M2 := M2) (t := t) (hS.to rfl) (hB.to (tpM_o (by decide)) (tpM_o (by decide))) he h5 (tpM_cr hC) hS2 hB2 hr h40 (by omega)
    rw [tpM_tpM] at l2
    have sA := l3.1.st hS2
    have bA := hB2.to (l3.1.1 2 (by decide)) (l3.1.1 58 (by decide))
    have hcl : ∃ x3', f_X9_read_8 1 what (n + 1) (nI t) x3 (nI t) (tpM M p 0) = f_X9_read_29 1 what (f_X9_read_8 1 what n) (nI t) x3' (nI t) (tpM M p' f) ∧ ((nI t = what ∧ x3' = lv) ∨ (nI t ≠ what ∧ x3' = x3)) := by
      rw [f_X9_read_8, if_neg (show ¬ (60 : Int32) ≤ nI t from nI_ge (b := 60) (by omega) (by omega)), l2, z_call_eq]
      by_cases h : nI t = what
      · exact ⟨lv, by rw [if_pos h], Or.inl ⟨h, rfl⟩⟩
      · exact ⟨x3, by rw [if_neg h], Or.inr ⟨h, rfl⟩⟩
    obtain ⟨x3', hc1, hc2⟩ := hcl
    rcases l4 with ⟨f0, l4, lr⟩ | ⟨f0, l4, lf⟩
    · obtain ⟨l6, l7, l8⟩ := l5 f0
      clear l5
      subst f0
      have hx3' : what = 100 ∨ x3' = if t + 1 ≤ w then -4 else A.1 80 w := by
        rcases hw with hw | ⟨hw, hw2⟩
        · exact Or.inl hw
        · rcases hx3 with hx3 | hx3
          · exact Or.inl hx3
          · refine Or.inr ?_
            rcases hc2 with ⟨c1, c2⟩ | ⟨c1, c2⟩
            · have : t = w := (nI_eq (by omega) (by omega)).mp (c1.trans hw)
              rw [c2, if_neg (by omega), l8, ← this, va_eq]
            · have hne : t ≠ w := fun q => c1 (by rw [q, hw])
              rw [c2, hx3]
              by_cases hq : t ≤ w
              · rw [if_pos hq, if_pos (by omega)]
              · rw [if_neg hq, if_neg (by omega), l8, va_ne (Ne.symm hne)]
      have xA : MX [54, 80] [4, 5, 7, 8, 40] M2 A := l3.mono (by decide) (by decide)
      by_cases hov : p' < e
      · obtain ⟨p2, f2, D, g1, g2, ⟨g3, g4⟩, g5⟩ := j_gap (M := tpM M p' 0) (M2 := A) (hS.to rfl) (hB.to (tpM_o (by decide)) (tpM_o (by decide))) he l1 (tpM_cr hC) sA bA lr
        rw [tpM_tpM] at g2
        have hc3 : f_X9_read_29 1 what (f_X9_read_8 1 what n) (nI t) x3' (nI t) (tpM M p' 0) = f_X9_read_8 1 what n (nI (t + 1)) x3' (nI (t + 1)) (tpM M p2 f2) := by
          rw [f_X9_read_29, zl_eq, c_isOver (tpM_cr hC) (by omega) (by omega), if_pos hov, z_call_eq, if_pos rfl, g2, z_call_eq, zl_eq, nI_1]
        have xD : MX [54, 80] [4, 5, 7, 8, 40] A D := g3.mono (by decide) (by decide)
        have sD := g3.1.st sA
        have bD := bA.to (g3.1.1 2 (by decide)) (g3.1.1 58 (by decide))
        rw [hc1, hc3]
        have hm1 : f_X12_taps_51 54 what (nn + 1) 1 A = z_call (f_X12_readsPause 54 A) fun v_3 M_4 => (if v_3 = 0 then (f_X12_taps_84 54 what (f_X12_taps_51 54 what nn) M_4) else z_call (f_X12_readsLetter 54 M_4) fun v_7 M_8 => (if v_7 = 0 then (f_X12_taps_84 54 what (f_X12_taps_51 54 what nn) M_8) else (f_X12_taps_85 54 what (f_X12_taps_51 54 what nn) 1 M_8))) := by
          rw [f_X12_taps_51, if_neg (by decide), lr.1, lr.2, if_neg (nI_ge hov (by omega))]
        rcases g4 with ⟨f0, g4, gr⟩ | ⟨f0, g4, gf⟩
        · have hp2 := g5 f0
          clear g5
          subst f0
          obtain ⟨v, v', p3, f3, E, i1, i2, i3, i4, i5⟩ := ih (t + 1) n nn p2 D x3' (by omega) (by omega) (by omega) (by omega) g1 sD bD gr (by rw [g3.2 40 (by decide), l7]) (by
            rcases hx3' with q | q
            · exact Or.inl q
            · exact Or.inr (by rw [q, g3.1.1 80 (by decide)]))
          refine ⟨v, v', p3, f3, E, i1, ?_, (xA.tr xD).tr i3, i4, i5⟩
          intro r A' hA
          rw [l4] at hA
          obtain ⟨rfl, rfl⟩ : (1 : Int32) = r ∧ A = A' := ⟨congrArg Prod.fst (Option.some.inj hA), congrArg Prod.snd (Option.some.inj hA)⟩
          rw [hm1, g4, z_call_eq, if_neg (by decide)]
          obtain ⟨lv2, pp, ff, A2, m1, m2, ⟨m3, m4⟩, m5⟩ := j_letter (M := tpM M p2 0) (M2 := D) (t := t + 1) (hS.to rfl) (hB.to (tpM_o (by decide)) (tpM_o (by decide))) he g1 (tpM_cr hC) sD bD gr (by rw [g3.2 40 (by decide), l7]) (by omega)
          rcases m4 with ⟨_, m4, _⟩ | ⟨_, m4, _⟩
          · rw [m4, z_call_eq, if_neg (by decide), f_X12_taps_85]
            exact i2 _ _ m4
          · rw [m4, z_call_eq, if_pos rfl, f_X12_taps_84, f_X12_taps_85]
            exact i2 _ _ m4
        · obtain ⟨n, rfl⟩ : ∃ m, n = m + 1 := ⟨n - 1, by omega⟩
          obtain ⟨nn, rfl⟩ : ∃ m, nn = m + 1 := ⟨nn - 1, by omega⟩
          obtain ⟨w', hw'⟩ := c_readF (M := tpM M p2 f2) (n := n) (what := what) (x3 := x3') (t := t + 1) (tpM_cr hC) f0 (by omega)
          refine ⟨f2, w', p2, f2, (zu D.1 54 4 0, D.2), hw', ?_, (xA.tr xD).tr (MX.s54 (by simp) (by simp)), zu_same D.1 54 4 0, by rw [if_neg f0]⟩
          intro r A' hA
          rw [l4] at hA
          obtain ⟨rfl, rfl⟩ : (1 : Int32) = r ∧ A = A' := ⟨congrArg Prod.fst (Option.some.inj hA), congrArg Prod.snd (Option.some.inj hA)⟩
          rw [hm1, g4, z_call_eq, if_pos rfl, f_X12_taps_84, f_X12_taps_85, f_X12_taps_51, if_pos rfl, m_end (x3 := 0), gf]
      · refine ⟨if what = 100 then nI (t + 1) else if t + 1 ≤ w then -4 else A.1 80 w, if what = 100 then nI (t + 1) else x3', p', 0, (zu A.1 54 4 0, A.2), ?_, ?_, xA.tr (MX.s54 (by simp) (by simp)), zu_same A.1 54 4 0, ?_⟩
        · rw [hc1, f_X9_read_29, zl_eq, c_isOver (tpM_cr hC) (by omega) (by omega), if_neg hov, z_call_eq, if_neg (by decide), f_X9_read_52, nI_1]
          by_cases h : what = 100
          · rw [if_pos h, if_pos h]
          · rw [if_neg h, if_neg h]
        · intro r A' hA
          rw [l4] at hA
          obtain ⟨rfl, rfl⟩ : (1 : Int32) = r ∧ A = A' := ⟨congrArg Prod.fst (Option.some.inj hA), congrArg Prod.snd (Option.some.inj hA)⟩
          rw [f_X12_taps_51, if_neg (by decide), lr.1, lr.2, if_pos ((nI_leI (by omega) (by omega)).mpr (by omega)), m_end1 sA l7 (by omega) hw]
        · rw [if_pos rfl]
          by_cases h : what = 100
          · rw [if_pos h, if_pos h]
          · rcases hx3' with q | q
            · exact absurd q h
            · rw [if_neg h, if_neg h, q]
    · have hc3 : ∃ w', f_X9_read_29 1 what (f_X9_read_8 1 what n) (nI t) x3' (nI t) (tpM M p' f) = some (w', tpM M p' f) := by
        rw [f_X9_read_29, zl_eq, c_isOverF (tpM_cr hC) f0, z_call_eq, if_neg (by decide), f_X9_read_52]
        by_cases h : what = 100
        · rw [if_pos h]; exact ⟨_, rfl⟩
        · rw [if_neg h]; exact ⟨_, rfl⟩
      obtain ⟨w', hw'⟩ := hc3
      refine ⟨f, w', p', f, (zu A.1 54 4 0, A.2), hc1.trans hw', ?_, (l3.mono (by decide) (by decide)).tr (MX.s54 (by simp) (by simp)), zu_same A.1 54 4 0, by rw [if_neg f0]⟩
      intro r A' hA
      rw [l4] at hA
      obtain ⟨rfl, rfl⟩ : (0 : Int32) = r ∧ A = A' := ⟨congrArg Prod.fst (Option.some.inj hA), congrArg Prod.snd (Option.some.inj hA)⟩
      rw [f_X12_taps_51, if_pos rfl, m_end (x3 := 0), lf]
/-- the reference begins a text -/
def bgM (M : zM) (n : Nat) : zM := (zu (zu (zu (zu M.1 54 5 0) 54 6 (nI n)) 54 10 0) 54 12 0, M.2)
theorem m_begins {M : zM} {n : Nat} : f_X12_beginsText 54 (nI n) M = some ((), bgM M n) := by rw [f_X12_beginsText, zl_eq, zl_eq, zl_eq, zl_eq]; rfl
theorem bgM_mx {M : zM} {n : Nat} : MX [54] [5, 6, 10, 12] M (bgM M n) := (((MX.s54 (M := M) (j := 5) (v := 0) (by simp) (by simp)).tr (MX.s54 (M := (zu M.1 54 5 0, M.2)) (j := 6) (v := nI n) (by simp) (by simp))).tr (MX.s54 (M := (zu (zu M.1 54 5 0) 54 6 (nI n), M.2)) (j := 10) (v := 0) (by simp) (by simp))).tr (MX.s54 (M := (zu (zu (zu M.1 54 5 0) 54 6 (nI n)) 54 10 0, M.2)) (j := 12) (v := 0) (by simp) (by simp))
theorem bgM_mr {M : zM} {n : Nat} : MR (bgM M n) n 0 := by
  refine ⟨?_, ?_⟩
  · show zu (zu (zu (zu M.1 54 5 0) 54 6 (nI n)) 54 10 0) 54 12 0 54 5 = _
    rw [zu_ne _ _ _ (by decide), zu_ne _ _ _ (by decide), zu_ne _ _ _ (by decide), zu_same]
    rfl
  · show zu (zu (zu (zu M.1 54 5 0) 54 6 (nI n)) 54 10 0) 54 12 0 54 6 = _
    rw [zu_ne _ _ _ (by decide), zu_ne _ _ _ (by decide), zu_same]
theorem bgM_0 {M : zM} {n : Nat} : (bgM M n).1 54 10 = 0 ∧ (bgM M n).1 54 12 = 0 := by
  refine ⟨?_, ?_⟩
  · show zu (zu (zu (zu M.1 54 5 0) 54 6 (nI n)) 54 10 0) 54 12 0 54 10 = _
    rw [zu_ne _ _ _ (by decide), zu_same]
  · exact zu_same (zu (zu (zu M.1 54 5 0) 54 6 (nI n)) 54 10 0) 54 12 0
theorem w100_cases (x : Int32) (n : Nat) (hn : n < 2 ^ 31) : (∃ w, (x = 100 ∨ (x = nI w ∧ w ≤ n))) ∨ (x ≠ 100 ∧ (x < 0 ∨ nI n < x)) := by
  by_cases h : x = 100
  · exact Or.inl ⟨0, Or.inl h⟩
  · rcases f_in_cases x n hn with ⟨j, hj, rfl⟩ | q
    · exact Or.inl ⟨j, Or.inr ⟨rfl, hj⟩⟩
    · exact Or.inr ⟨h, q⟩
theorem p_taps : ok_taps Inv := by
  intro M hI a b
  obtain ⟨N, K, hS, hR, hN, hC, hK, hT, hL⟩ := id hI
  obtain ⟨s, B, q1, q2, q3, q4⟩ := hT.get
  rcases inL_cases a 1 60 (by omega) (by omega) with ⟨n, hn1, hn, rfl, hin⟩ | ha
  · rcases w100_cases b 19 (by omega) with ⟨w, hw⟩ | ⟨hb1, hb2⟩
    · have hw' : b = 100 ∨ (b = nI w ∧ w < 20) := by
        rcases hw with h | ⟨h1, h2⟩
        · exact Or.inl h
        · exact Or.inr ⟨h1, by omega⟩
      have cc : f_X11_taps 0 (nI n) b M = if n ≤ s then f_X11_taps_41 0 (nI n) b M else some (-1, M) := by
        rw [f_X11_taps, e_within, show (60 : Int32) = nI 60 from rfl, show f_X12_in (nI n) 1 (nI 60) M = some (1, M) from hin M, z_call_eq, if_neg (by decide), (ST.a hS (o := 0) (k := 0) (a := 1) (by decide)), z_rd_eq, c_has q2 q1 (by omega)]
        by_cases hs : n ≤ s
        · rw [if_pos hs, if_pos hs, z_call_eq, if_neg (by decide)]
          by_cases hb : b = 100
          · rw [if_pos hb]
          · rcases hw' with h | ⟨h1, h2⟩
            · exact absurd h hb
            · rw [if_neg hb, e_within, h1, show (19 : Int32) = nI 19 from rfl, e_in1 (by omega) (by omega), z_call_eq, if_neg (by decide)]
        · rw [if_neg hs, if_neg hs, z_call_eq, if_pos rfl]
      have mm : ∀ M', f_X12_taps 54 (nI n) b M' = f_X12_taps_26 54 (nI n) b M' := by
        intro M'
        rw [f_X12_taps, show (60 : Int32) = nI 60 from rfl, show f_X12_in (nI n) 1 (nI 60) M' = some (1, M') from hin M', z_call_eq, if_neg (by decide), show (19 : Int32) = nI 19 from rfl]
        rcases hw' with h | ⟨h1, h2⟩
        · rw [h, e_in0 (by omega) (Or.inr (by decide)), z_call_eq, if_pos rfl, if_pos rfl]
        · rw [h1, e_in1 (by omega) (by omega), z_call_eq, if_neg (by decide)]
      by_cases hs : n ≤ s
      · have s1 : ST (tkM M n) := hS.to rfl
        have hid : tpM (tkM M n) 0 0 = tkM M n := tpM_id tkM_cr
        have t1 : TB (tkM M n) B := q4.tk
        have hx : ∀ p f, ∃ v v' p' f' M2', f_X9_read 1 b (tkM M n) = some (v', tpM (tkM M n) p' f') ∧ f_X12_taps_26 54 (nI n) b (tpM (tkM M n) p f) = some (v, M2') ∧ MX [54, 80] [4, 5, 6, 7, 8, 10, 12, 40] (tpM (tkM M n) p f) M2' ∧ M2'.1 54 4 = 0 ∧ (if f' = 0 then v' = v else f' = v) := by
          intro p f
          have x1 : MX [54, 80] [4, 5, 6, 7, 8, 10, 12, 40] (tpM (tkM M n) p f) (zu (bgM (tpM (tkM M n) p f) n).1 54 40 0, (bgM (tpM (tkM M n) p f) n).2) := (bgM_mx.mono (by decide) (by decide)).tr (MX.s54 (by simp) (by simp))
          have sA : ST (zu (bgM (tpM (tkM M n) p f) n).1 54 40 0, (bgM (tpM (tkM M n) p f) n).2) := x1.1.st (hS.to rfl)
          have bA : TB (zu (bgM (tpM (tkM M n) p f) n).1 54 40 0, (bgM (tpM (tkM M n) p f) n).2) B := t1.to (by rw [x1.1.1 2 (by decide), tpM_o (by decide)]) (by rw [x1.1.1 58 (by decide), tpM_o (by decide)])
          have rA : MR (zu (bgM (tpM (tkM M n) p f) n).1 54 40 0, (bgM (tpM (tkM M n) p f) n).2) n 0 := bgM_mr.to (zu_ne (bgM (tpM (tkM M n) p f) n).1 54 (j := 40) (j' := 5) 0 (by decide)) (zu_ne (bgM (tpM (tkM M n) p f) n).1 54 (j := 40) (j' := 6) 0 (by decide))
          have h40 : (zu (bgM (tpM (tkM M n) p f) n).1 54 40 0, (bgM (tpM (tkM M n) p f) n).2).1 54 40 = nI 0 := zu_same (bgM (tpM (tkM M n) p f) n).1 54 40 0
          obtain ⟨v, v', p', f', E, i1, i2, i3, i4, i5⟩ := taps_lp (w := w) (what := b) s1 t1 hn tkM_cr hw' 13 0 zF zF 0 (zu (bgM (tpM (tkM M n) p f) n).1 54 40 0, (bgM (tpM (tkM M n) p f) n).2) (-4) (by omega) (by unfold zF; omega) (by unfold zF; omega) (by omega) (by omega) sA bA rA h40 (Or.inr (by rw [if_pos (Nat.zero_le _)]))
          refine ⟨v, v', p', f', E, ?_, ?_, x1.tr (i3.mono (by decide) (by decide)), i4, i5⟩
          · rw [hid] at i1
            exact i1
          · rw [f_X12_taps_26, tpM_o (by decide), tkM_fr.1 54 (by decide), q3, if_pos ((nI_leI (by omega) (by omega)).mpr hs), m_begins, z_call_eq, zl_eq]
            obtain ⟨lv2, pp, ff, A2, m1, m2, ⟨m3, m4⟩, m5⟩ := j_letter (M := tkM M n) (M2 := (zu (bgM (tpM (tkM M n) p f) n).1 54 40 0, (bgM (tpM (tkM M n) p f) n).2)) (t := 0) s1 t1 hn (Nat.zero_le _) tkM_cr sA bA rA h40 (by omega)
            rcases m4 with ⟨_, m4, _⟩ | ⟨_, m4, _⟩
            · rw [m4, z_call_eq]; exact i2 _ _ m4
            · rw [m4, z_call_eq]; exact i2 _ _ m4
        obtain ⟨_, w1, p, f, _, w2, _, _, _, _⟩ := hx 0 0
        obtain ⟨v, w1', p', f', E, w2', w3, w4, w5, w6⟩ := hx p f
        rw [w2] at w2'
        have e1 := Option.some.inj w2'
        have e2 : w1 = w1' := congrArg Prod.fst e1
        have e3 : tpM (tkM M n) p f = tpM (tkM M n) p' f' := congrArg Prod.snd e1
        have e4 : f = f' := by
          have : (tpM (tkM M n) p f).1 1 4 = (tpM (tkM M n) p' f').1 1 4 := by rw [e3]
          rw [(tpM_cr tkM_cr).2.2, (tpM_cr tkM_cr).2.2] at this
          exact this
        refine ⟨v, tpM (tkM M n) p f, E, ?_, ?_, ?_⟩
        · have s3 : ST (tpM (tkM M n) p f) := hS.to rfl
          rw [cc, if_pos hs, f_X11_taps_41, (ST.a hS (o := 0) (k := 0) (a := 1) (by decide)), z_rd_eq, c_take hS (by omega), z_call_eq, (ST.a s1 (o := 0) (k := 0) (a := 1) (by decide)), z_rd_eq, w2, z_call_eq, (ST.a s3 (o := 0) (k := 0) (a := 1) (by decide)), z_rd_eq, c_isFaulty (tpM_cr tkM_cr), z_call_eq]
          rw [← e4] at w6
          by_cases h0 : f = 0
          · rw [if_pos h0, if_pos rfl]
            rw [if_pos h0] at w6
            rw [e2, w6]
          · rw [if_neg h0, if_neg (by decide), (ST.a s3 (o := 0) (k := 0) (a := 1) (by decide)), z_rd_eq, (tpM_cr tkM_cr).2.2]
            rw [if_neg h0] at w6
            rw [w6]
        · rw [mm, w3]
        · refine Inv.took hS hR hN hC hK hL q4 (l := [1, 54, 80]) (((tkM_fr.mono (by decide)).tr (tpM_fr.mono (by decide))).tr (w4.1.mono (by decide))) (by decide) ?_ w5 ?_ ?_
          · rw [w4.1.1 1 (by decide), tpM_1 (by decide) (by decide)]; exact tkM_1
          · rw [w4.2 13 (by decide), tpM_o (by decide), tkM_fr.1 54 (by decide)]
          · rw [w4.2 41 (by decide), tpM_o (by decide), tkM_fr.1 54 (by decide)]
      · refine ⟨-1, M, M, ?_, ?_, hI⟩
        · rw [cc, if_neg hs]
        · rw [mm, f_X12_taps_26, q3, if_neg (fun h => hs ((nI_leI (by omega) (by omega)).mp h))]
    · refine ⟨-1, M, M, ?_, ?_, hI⟩
      · rw [f_X11_taps, e_within, show (60 : Int32) = nI 60 from rfl, show f_X12_in (nI n) 1 (nI 60) M = some (1, M) from hin M, z_call_eq, if_neg (by decide), (ST.a hS (o := 0) (k := 0) (a := 1) (by decide)), z_rd_eq, c_has q2 q1 (by omega)]
        by_cases hs : n ≤ s
        · rw [if_pos hs, z_call_eq, if_neg (by decide), if_neg hb1, e_within, show (19 : Int32) = nI 19 from rfl, e_in0 (by omega) hb2, z_call_eq, if_pos rfl]
        · rw [if_neg hs, z_call_eq, if_pos rfl]
      · rw [f_X12_taps, show (60 : Int32) = nI 60 from rfl, show f_X12_in (nI n) 1 (nI 60) M = some (1, M) from hin M, z_call_eq, if_neg (by decide), show (19 : Int32) = nI 19 from rfl, e_in0 (by omega) hb2, z_call_eq, if_pos rfl, if_neg hb1]
  · refine ⟨-1, M, M, ?_, ?_, hI⟩
    · rw [f_X11_taps, e_within, show (60 : Int32) = nI 60 from rfl, show f_X12_in a 1 (nI 60) M = some (0, M) from ha M, z_call_eq, if_pos rfl]
    · rw [f_X12_taps, show (60 : Int32) = nI 60 from rfl, show f_X12_in a 1 (nI 60) M = some (0, M) from ha M, z_call_eq, if_pos rfl]
