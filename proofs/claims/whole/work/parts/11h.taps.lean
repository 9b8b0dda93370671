/-! taps to letters -/
/-- a change of the reference's own cells: c are the cells, l the slots of cell 54 -/
def MX (c l : List Nat) (M M' : zM) : Prop := Fr c M M' ∧ ∀ j, j ∉ l → M'.1 54 j = M.1 54 j
theorem MX.rf {c l : List Nat} {M : zM} : MX c l M M := ⟨Fr.rf, fun _ _ => rfl⟩
theorem MX.tr {c l : List Nat} {M M1 M2 : zM} (h1 : MX c l M M1) (h2 : MX c l M1 M2) : MX c l M M2 := ⟨h1.1.tr h2.1, fun j hj => (h2.2 j hj).trans (h1.2 j hj)⟩
theorem MX.mono {c c' l l' : List Nat} {M M' : zM} (h : MX c l M M') (hc : ∀ x, x ∈ c → x ∈ c') (hl : ∀ x, x ∈ l → x ∈ l') : MX c' l' M M' := ⟨h.1.mono hc, fun j hj => h.2 j (fun e => hj (hl j e))⟩
theorem MX.s54 {c l : List Nat} {M : zM} {j : Nat} {v : Int32} (h54 : 54 ∈ c) (hj : j ∈ l) : MX c l M (zu M.1 54 j v, M.2) := ⟨Fr.zu h54, fun i hi => zu_ne M.1 54 v (fun e => hi (e ▸ hj))⟩
theorem MX.oth {c l : List Nat} {M : zM} {o j : Nat} {v : Int32} (hc : o ∈ c) (ho : o ≠ 54) : MX c l M (zu M.1 o j v, M.2) := ⟨Fr.zu hc, fun i _ => by
  show zu M.1 o j v 54 i = _
  rw [zu_cell _ _ _ (Ne.symm ho)]⟩
theorem m_wrong {M : zM} {x y : Int32} : f_X12_wrongAt 54 x y M = some (0, (zu M.1 54 7 (-1000 * x - y), M.2)) := by rw [f_X12_wrongAt, zl_eq]
theorem m_stp {M : zM} {e p : Nat} (h : MR M e p) : MR (zu M.1 54 5 (nI (p + 1)), M.2) e (p + 1) := ⟨zu_same M.1 54 5 _, by
  show zu M.1 54 5 (nI (p + 1)) 54 6 = _
  rw [zu_ne _ _ _ (by decide)]
  exact h.2⟩
theorem MR.to {M M' : zM} {e p : Nat} (h : MR M e p) (e5 : M'.1 54 5 = M.1 54 5) (e6 : M'.1 54 6 = M.1 54 6) : MR M' e p := ⟨e5.trans h.1, e6.trans h.2⟩
theorem m_takes {M : zM} {B : Nat → Nat} {e p : Nat} {w : Int32} (hS : ST M) (hB : TB M B) (hr : MR M e p) (he : e ≤ 260) (hp : p < 1000) : f_X12_takes 54 w M = if sg B e p = w then some (1, (zu M.1 54 5 (nI (p + 1)), M.2)) else some (0, (zu M.1 54 7 (-1000 * 1 - nI p), M.2)) := by
  rw [f_X12_takes, m_here hS hB hr he hp, z_call_eq]
  by_cases h : sg B e p = w
  · rw [if_pos h, if_pos h, hr.1, nI_1, zl_eq]
  · rw [if_neg h, if_neg h, hr.1, m_wrong, z_call_eq, if_pos (Or.inl rfl)]
theorem sg_lt {B : Nat → Nat} {e p : Nat} {w : Int32} (h : sg B e p = w) (hw : w ≠ -1) : p < e := by
  unfold sg at h
  by_cases q : p < e
  · exact q
  · rw [if_neg q] at h
    exact absurd h.symm hw
theorem flt_ne : ∀ c, c < 8 → ∀ p, p < 270 → 1 ≤ c → (-1000 * nI c - nI p : Int32) ≠ 0 := by decide +kernel
/-- how a piece of text is read by both: to a place, or to a fault -/
def RD (e : Nat) (M2 : zM) (cs ls : List Nat) (p' : Nat) (f : Int32) (o : Option (Int32 × zM)) (M2' : zM) : Prop := MX cs ls M2 M2' ∧ ((f = 0 ∧ o = some (1, M2') ∧ MR M2' e p') ∨ (f ≠ 0 ∧ o = some (0, M2') ∧ M2'.1 54 7 = f))
theorem j_taps_lp {M M2 : zM} {B : Nat → Nat} {e p : Nat} (hS : ST M) (hB : TB M B) (he : e ≤ 60) (hp : p ≤ e) (hC0 : CR M e p 0) : ∀ m i n (M2 : zM), i + m = 5 → 2 * m + 5 < n → ST M2 → TB M2 B → MR M2 e (p + i) → p + i ≤ e → M2.1 54 8 = nI i → (1 ≤ i ∨ sg B e p = 120) → ∃ k f M2', i ≤ k ∧ 1 ≤ k ∧ k ≤ 5 ∧ p + k ≤ e ∧ f_X9_readTaps_4 1 n (nI i) (nI i) (tpM M (p + i) 0) = some (nI k, tpM M (p + k) f) ∧ RD e M2 [54] [5, 7, 8] (p + k) f (f_X12_readsTaps_24 54 n M2) M2' ∧ (f = 0 → M2'.1 54 8 = nI k) := by
  intro m
  induction m with
  | zero =>
    intro i n M2 hi hn hS2 hB2 hr hle h8 hx
    obtain ⟨n, rfl⟩ : ∃ m, n = m + 1 := ⟨n - 1, by omega⟩
    obtain rfl : i = 5 := by omega
    have s1 : ST (tpM M (p + 5) 0) := hS.to rfl
    have b1 : TB (tpM M (p + 5) 0) B := hB.to (tpM_o (by decide)) (tpM_o (by decide))
    rw [f_X9_readTaps_4, if_pos (by decide), f_X9_readTaps_31, if_neg (by decide), f_X9_readTaps_44, c_sign s1 b1 (tpM_cr hC0) (by omega) (by omega), z_call_eq, f_X12_readsTaps_24, m_here hS2 hB2 hr (by omega) (by omega), z_call_eq]
    by_cases h : sg B e (p + 5) = 120
    · have hne := flt_ne 2 (by decide) (p + 5) (by omega) (by decide)
      refine ⟨5, -1000 * 2 - nI (p + 5), (zu M2.1 54 7 (-1000 * 2 - nI (p + 5)), M2.2), by omega, by omega, by omega, hle, ?_, ⟨MX.s54 (by simp) (by simp), Or.inr ⟨hne, ?_, zu_same M2.1 54 7 _⟩⟩, fun q => absurd q hne⟩
      · rw [if_pos h, (tpM_cr (q := p + 5) (g := 0) hC0).2.1, c_fail (tpM_cr hC0), z_call_eq, tpM_tpM]
      · rw [if_pos h, h8, if_pos (show nI 5 = 5 from rfl), hr.1, m_wrong, z_call_eq, if_pos (Or.inl rfl)]
    · refine ⟨5, 0, M2, by omega, by omega, by omega, hle, ?_, ⟨MX.rf, Or.inl ⟨rfl, ?_, hr⟩⟩, fun _ => h8⟩
      · rw [if_neg h]
      · rw [if_neg h]
  | succ m ih =>
    intro i n M2 hi hn hS2 hB2 hr hle h8 hx
    obtain ⟨n, rfl⟩ : ∃ m, n = m + 1 := ⟨n - 1, by omega⟩
    have s1 : ST (tpM M (p + i) 0) := hS.to rfl
    have b1 : TB (tpM M (p + i) 0) B := hB.to (tpM_o (by decide)) (tpM_o (by decide))
    by_cases h : sg B e (p + i) = 120
    · have hlt := sg_lt h (by decide)
      have g : Fr [54] M2 (zu (zu M2.1 54 8 (nI (i + 1))) 54 5 (nI (p + i + 1)), M2.2) := (Fr.zu (M := M2) (c := 54) (by simp)).tr (Fr.zu (M := (zu M2.1 54 8 (nI (i + 1)), M2.2)) (c := 54) (by simp))
      have hx2 : MX [54] [5, 7, 8] M2 (zu (zu M2.1 54 8 (nI (i + 1))) 54 5 (nI (p + i + 1)), M2.2) := (MX.s54 (M := M2) (by simp) (by simp)).tr (MX.s54 (M := (zu M2.1 54 8 (nI (i + 1)), M2.2)) (by simp) (by simp))
      obtain ⟨k, f, M2', k1, k2, k3, k4, k5, k6, k7⟩ := ih (i + 1) n (zu (zu M2.1 54 8 (nI (i + 1))) 54 5 (nI (p + i + 1)), M2.2) (by omega) (by omega) (g.st hS2) (hB2.to (g.1 2 (by decide)) (g.1 58 (by decide))) ⟨zu_same (zu M2.1 54 8 (nI (i + 1))) 54 5 _, by
          show zu (zu M2.1 54 8 (nI (i + 1))) 54 5 (nI (p + i + 1)) 54 6 = _
          rw [zu_ne _ _ _ (by decide), zu_ne _ _ _ (by decide)]; exact hr.2⟩ (by omega) (by
          show zu (zu M2.1 54 8 (nI (i + 1))) 54 5 (nI (p + i + 1)) 54 8 = _
          rw [zu_ne _ _ _ (by decide), zu_same]) (Or.inl (by omega))
      refine ⟨k, f, M2', by omega, k2, k3, k4, ?_, ⟨hx2.tr k6.1, ?_⟩, k7⟩
      · rw [f_X9_readTaps_4, if_neg (show ¬ (5 : Int32) ≤ nI i from nI_ge (b := 5) (by omega) (by omega)), c_sign s1 b1 (tpM_cr hC0) (by omega) (by omega), z_call_eq, if_pos h, c_step (tpM_cr hC0), z_call_eq, zl_eq, zl_eq, nI_1, tpM_tpM]
        exact k5
      · have e1 : f_X12_readsTaps_24 54 (n + 1) M2 = f_X12_readsTaps_24 54 n (zu (zu M2.1 54 8 (nI (i + 1))) 54 5 (nI (p + i + 1)), M2.2) := by
          rw [f_X12_readsTaps_24, m_here hS2 hB2 hr (by omega) (by omega), z_call_eq, if_pos h, h8, if_neg (show ¬ nI i = 5 from fun q => by have := (nI_eq (b := 5) (by omega) (by omega)).mp q; omega), zl_eq, nI_1, zl_eq]
          show f_X12_readsTaps_24 54 n (zu (zu M2.1 54 8 (nI (i + 1))) 54 5 (zu M2.1 54 8 (nI (i + 1)) 54 5 + 1), M2.2) = _
          rw [zu_ne _ _ _ (by decide), hr.1, nI_1]
        rw [e1]
        exact k6.2
    · have hi1 : 1 ≤ i := by
        rcases hx with hx | hx
        · exact hx
        · by_cases h0 : i = 0
          · rw [h0] at h; exact absurd hx h
          · omega
      refine ⟨i, 0, M2, by omega, hi1, by omega, hle, ?_, ⟨MX.rf, Or.inl ⟨rfl, ?_, hr⟩⟩, fun _ => h8⟩
      · rw [f_X9_readTaps_4, if_neg (show ¬ (5 : Int32) ≤ nI i from nI_ge (b := 5) (by omega) (by omega)), c_sign s1 b1 (tpM_cr hC0) (by omega) (by omega), z_call_eq, if_neg h, f_X9_readTaps_31, if_neg (show ¬ nI i = 0 from fun q => by have := (nI_eq (b := 0) (by omega) (by omega)).mp q; omega), f_X9_readTaps_44, c_sign s1 b1 (tpM_cr hC0) (by omega) (by omega), z_call_eq, if_neg h]
      · rw [f_X12_readsTaps_24, m_here hS2 hB2 hr (by omega) (by omega), z_call_eq, if_neg h]
theorem j_taps {M M2 : zM} {B : Nat → Nat} {e p : Nat} (hS : ST M) (hB : TB M B) (he : e ≤ 60) (hp : p ≤ e) (hC : CR M e p 0) (hS2 : ST M2) (hB2 : TB M2 B) (hr : MR M2 e p) : ∃ k f M2', k ≤ 5 ∧ p + k ≤ e ∧ f_X9_readTaps 1 M = some (nI k, tpM M (p + k) f) ∧ RD e M2 [54] [5, 7, 8] (p + k) f (f_X12_readsTaps 54 M2) M2' ∧ (f = 0 → M2'.1 54 8 = nI k ∧ 1 ≤ k) := by
  have hr0 : MR (zu M2.1 54 8 0, M2.2) e p := hr.to (zu_ne M2.1 54 (j := 8) (j' := 5) 0 (by decide)) (zu_ne M2.1 54 (j := 8) (j' := 6) 0 (by decide))
  have g : Fr [54] M2 (zu M2.1 54 8 0, M2.2) := Fr.zu (by simp)
  have gx : MX [54] [5, 7, 8] M2 (zu M2.1 54 8 0, M2.2) := MX.s54 (by simp) (by simp)
  have b2 := hB2.to (g.1 2 (by decide)) (g.1 58 (by decide))
  by_cases h : sg B e p = 120
  · obtain ⟨k, f, M2', k1, k2, k3, k4, k5, k6, k7⟩ := j_taps_lp (M2 := M2) hS hB he hp hC 5 0 zF (zu M2.1 54 8 0, M2.2) (by omega) (by unfold zF; omega) (g.st hS2) b2 hr0 (by omega) (zu_same M2.1 54 8 0) (Or.inr h)
    refine ⟨k, f, M2', k3, k4, ?_, ⟨gx.tr k6.1, ?_⟩, fun q => ⟨k7 q, k2⟩⟩
    · rw [Nat.add_zero, tpM_id hC] at k5
      exact k5
    · rw [f_X12_readsTaps, zl_eq, m_here (g.st hS2) b2 hr0 (by omega) (by omega), z_call_eq, if_pos h]
      exact k6.2
  · have hne : (-1000 * 1 - nI p : Int32) ≠ 0 := flt_ne 1 (by decide) p (by omega) (by decide)
    refine ⟨0, -1000 * 1 - nI p, (zu (zu M2.1 54 8 0) 54 7 (-1000 * 1 - nI p), M2.2), by omega, by omega, ?_, ⟨gx.tr (MX.s54 (M := (zu M2.1 54 8 0, M2.2)) (by simp) (by simp)), Or.inr ⟨hne, ?_, zu_same (zu M2.1 54 8 0) 54 7 _⟩⟩, fun q => absurd q hne⟩
    · rw [f_X9_readTaps, show zF = 999 + 1 from rfl, f_X9_readTaps_4, if_neg (by decide), c_sign hS hB hC (by omega) (by omega), z_call_eq, if_neg h, f_X9_readTaps_31, if_pos rfl, hC.2.1, c_fail hC, z_call_eq, f_X9_readTaps_44, c_signF (tpM_cr hC) hne, z_call_eq, if_neg (by decide)]
      rfl
    · rw [f_X12_readsTaps, zl_eq, m_here (g.st hS2) b2 hr0 (by omega) (by omega), z_call_eq, if_neg h, hr0.1, m_wrong, z_call_eq, if_pos (Or.inl rfl)]
theorem c_readTapsF {M : zM} {e p : Nat} {f : Int32} (hr : CR M e p f) (hf : f ≠ 0) : f_X9_readTaps 1 M = some (0, M) := by
  rw [f_X9_readTaps, show zF = 999 + 1 from rfl, f_X9_readTaps_4, if_neg (by decide), c_signF hr hf, z_call_eq, if_neg (by decide), f_X9_readTaps_31, if_pos rfl, c_failF hr hf, z_call_eq, f_X9_readTaps_44, c_signF hr hf, z_call_eq, if_neg (by decide)]

theorem CR.st {M : zM} {e p q : Nat} {f g : Int32} (h : CR M e p f) (hf : f ≠ 0) : tpM M p f = M := tpM_id h
/-- both read a letter -/
theorem j_letter {M M2 : zM} {B : Nat → Nat} {e p t : Nat} (hS : ST M) (hB : TB M B) (he : e ≤ 60) (hp : p ≤ e) (hC : CR M e p 0) (hS2 : ST M2) (hB2 : TB M2 B) (hr : MR M2 e p) (ht : M2.1 54 40 = nI t) (ht20 : t < 20) : ∃ v p' f M2', p' ≤ e ∧ f_X9_readLetter 1 M = some (v, tpM M p' f) ∧ RD e M2 [54, 80] [5, 7, 8, 40] p' f (f_X12_readsLetter 54 M2) M2' ∧ (f = 0 → p + 3 ≤ p' ∧ M2'.1 54 40 = nI (t + 1) ∧ M2'.1 80 = va_up (M2.1 80) t v) := by
  obtain ⟨k, f, A, a1, a2, a3, ⟨a4, a5⟩, a6⟩ := j_taps hS hB he hp hC hS2 hB2 hr
  rcases a5 with ⟨f0, a5, ar⟩ | ⟨f0, a5, af⟩
  · obtain ⟨a6', a7⟩ := a6 f0
    clear a6
    subst f0
    have c1 : CR (tpM M (p + k) 0) e (p + k) 0 := tpM_cr hC
    have s1 : ST (tpM M (p + k) 0) := hS.to rfl
    have b1 : TB (tpM M (p + k) 0) B := hB.to (tpM_o (by decide)) (tpM_o (by decide))
    have sA := a4.1.st hS2
    have bA := hB2.to (a4.1.1 2 (by decide)) (a4.1.1 58 (by decide))
    by_cases h : sg B e (p + k) = 46
    · have hlt := sg_lt h (by decide)
      have c2 : CR (tpM M (p + k + 1) 0) e (p + k + 1) 0 := tpM_cr hC
      have g : Fr [54] A (zu A.1 54 5 (nI (p + k + 1)), A.2) := Fr.zu (by simp)
      obtain ⟨k2, f2, D, d1, d2, d3, ⟨d4, d5⟩, d6⟩ := j_taps (M := tpM M (p + k + 1) 0) (M2 := (zu A.1 54 5 (nI (p + k + 1)), A.2)) (hS.to rfl) (hB.to (tpM_o (by decide)) (tpM_o (by decide))) he (by omega) c2 (g.st sA) (bA.to (g.1 2 (by decide)) (g.1 58 (by decide))) (m_stp ar)
      rw [tpM_tpM] at d3
      have hcl : ∃ v, f_X9_readLetter 1 M = some (v, tpM M (p + k + 1 + k2) f2) ∧ (1 ≤ k2 → v = nI (if 5 * (k - 1) + (k2 - 1) < 10 then 5 * (k - 1) + (k2 - 1) else 5 * (k - 1) + (k2 - 1) + 1)) := by
        rw [f_X9_readLetter, a3, z_call_eq, c_expect s1 b1 c1 (by omega) (by omega), z_call_eq, if_pos h, tpM_tpM, d3, z_call_eq, zl_eq]
        by_cases hk2 : 1 ≤ k2
        · have e1 : ((nI k - 1) * 5 + nI k2 - 1 : Int32) = nI (5 * (k - 1) + (k2 - 1)) := by
            rw [show nI k - 1 = nI (k - 1) from nI_sub (b := 1) a7, show (5 : Int32) = nI 5 from rfl, nI_mul, nI_add, show ∀ x, nI x - 1 = nI x - nI 1 from fun _ => rfl, nI_sub (by omega)]
            congr 1
            omega
          rw [e1]
          by_cases hq : 5 * (k - 1) + (k2 - 1) < 10
          · exact ⟨_, by rw [if_pos (show nI (5 * (k - 1) + (k2 - 1)) < 10 from (nI_ltI (b := 10) (by omega) (by omega)).mpr hq)], fun _ => by rw [if_pos hq]⟩
          · exact ⟨_, by rw [if_neg (show ¬ nI (5 * (k - 1) + (k2 - 1)) < 10 from fun z => hq ((nI_ltI (b := 10) (by omega) (by omega)).mp z)), nI_1], fun _ => by rw [if_neg hq]⟩
        · by_cases hq : ((nI k - 1) * 5 + nI k2 - 1 : Int32) < 10
          · exact ⟨_, by rw [if_pos hq], fun z => absurd z hk2⟩
          · exact ⟨_, by rw [if_neg hq], fun z => absurd z hk2⟩
      obtain ⟨v, v1, v2⟩ := hcl
      have x1 : MX [54, 80] [5, 7, 8, 40] M2 (zu A.1 54 5 (nI (p + k + 1)), A.2) := (a4.mono (by decide) (by decide)).tr (MX.s54 (by simp) (by simp))
      have x2 : MX [54, 80] [5, 7, 8, 40] (zu A.1 54 5 (nI (p + k + 1)), A.2) D := d4.mono (by decide) (by decide)
      rcases d5 with ⟨f0, d5, dr⟩ | ⟨f0, d5, df⟩
      · obtain ⟨d6', d7⟩ := d6 f0
        clear d6
        subst f0
        have h40 : D.1 54 40 = nI t := by
          rw [d4.2 40 (by decide)]
          show zu A.1 54 5 (nI (p + k + 1)) 54 40 = _
          rw [zu_ne _ _ _ (by decide), a4.2 40 (by decide), ht]
        have h80 : D.1 80 = M2.1 80 := by
          rw [d4.1.1 80 (by decide)]
          show zu A.1 54 5 (nI (p + k + 1)) 80 = _
          rw [zu_cell _ _ _ (by decide), a4.1.1 80 (by decide)]
        have sD := d4.1.st (g.st sA)
        refine ⟨v, p + k + 1 + k2, 0, (zu (zu D.1 80 t v) 54 40 (nI (t + 1)), D.2), d2, v1, ⟨(x1.tr x2).tr ((MX.oth (M := D) (o := 80) (by simp) (by decide)).tr (MX.s54 (M := (zu D.1 80 t v, D.2)) (by simp) (by simp))), Or.inl ⟨rfl, ?_, ?_⟩⟩, fun _ => ⟨by omega, zu_same (zu D.1 80 t v) 54 40 _, ?_⟩⟩
        · rw [f_X12_readsLetter, a5, z_call_eq, if_neg (by decide), a6', zl_eq, m_takes sA bA ar (by omega) (by omega), if_pos h, z_call_eq, if_neg (by decide), d5, z_call_eq, if_neg (by decide), d6', h40]
          have e1 : (5 * nI k + nI k2 - 6 : Int32) = nI (5 * (k - 1) + (k2 - 1)) := by
            rw [show (5 : Int32) = nI 5 from rfl, nI_mul, nI_add, show ∀ x, nI x - 6 = nI x - nI 6 from fun _ => rfl, nI_sub (by omega)]
            congr 1
            omega
          rw [e1, zl_eq, (ST.a sD (o := 54) (k := 39) (a := 80) (by decide)), z_rd_eq, v2 d7]
          have e2 : ∀ w, f_X12_readsLetter_65 54 80 (nI t) w D = some (1, (zu (zu D.1 80 t w) 54 40 (nI (t + 1)), D.2)) := by
            intro w
            rw [f_X12_readsLetter_65, if_pos (by rw [z_ixN (by omega), show z_ln SH 80 = 20 by decide]; exact ht20), nI_clamp (by omega), zl_eq, zl_eq]
            show some ((1 : Int32), (zu (zu D.1 80 t w) 54 40 (zu D.1 80 t w 54 40 + 1), D.2)) = _
            rw [zu_cell _ _ _ (by decide), h40, nI_1]
          by_cases hq : 5 * (k - 1) + (k2 - 1) < 10
          · rw [if_neg (show ¬ (10 : Int32) ≤ nI (5 * (k - 1) + (k2 - 1)) from nI_ge (b := 10) hq (by omega)), if_pos hq, e2]
          · rw [if_pos (show (10 : Int32) ≤ nI (5 * (k - 1) + (k2 - 1)) from (nI_leI (a := 10) (by omega) (by omega)).mpr (by omega)), if_neg hq, nI_1, e2]
        · refine dr.to ?_ ?_
          · show zu (zu D.1 80 t v) 54 40 (nI (t + 1)) 54 5 = _
            rw [zu_ne _ _ _ (by decide), zu_cell _ _ _ (by decide)]
          · show zu (zu D.1 80 t v) 54 40 (nI (t + 1)) 54 6 = _
            rw [zu_ne _ _ _ (by decide), zu_cell _ _ _ (by decide)]
        · show zu (zu D.1 80 t v) 54 40 (nI (t + 1)) 80 = _
          rw [zu_cell _ _ _ (by decide), zu_self, h80]
      · refine ⟨v, p + k + 1 + k2, f2, D, d2, v1, ⟨x1.tr x2, Or.inr ⟨f0, ?_, df⟩⟩, fun q => absurd q f0⟩
        rw [f_X12_readsLetter, a5, z_call_eq, if_neg (by decide), zl_eq, m_takes sA bA ar (by omega) (by omega), if_pos h, z_call_eq, if_neg (by decide), d5, z_call_eq, if_pos rfl]
    · have hne := flt_ne 1 (by decide) (p + k) (by omega) (by decide)
      have c2 : CR (tpM M (p + k) (-1000 * 1 - nI (p + k))) e (p + k) (-1000 * 1 - nI (p + k)) := tpM_cr hC
      have hcl : ∃ v, f_X9_readLetter 1 M = some (v, tpM M (p + k) (-1000 * 1 - nI (p + k))) := by
        rw [f_X9_readLetter, a3, z_call_eq, c_expect s1 b1 c1 (by omega) (by omega), z_call_eq, if_neg h, tpM_tpM, c_readTapsF c2 hne, z_call_eq, zl_eq]
        by_cases hq : ((nI k - 1) * 5 + 0 - 1 : Int32) < 10
        · exact ⟨_, by rw [if_pos hq]⟩
        · exact ⟨_, by rw [if_neg hq]⟩
      obtain ⟨v, v1⟩ := hcl
      refine ⟨v, p + k, -1000 * 1 - nI (p + k), (zu A.1 54 7 (-1000 * 1 - nI (p + k)), A.2), a2, v1, ⟨(a4.mono (by decide) (by decide)).tr (MX.s54 (by simp) (by simp)), Or.inr ⟨hne, ?_, zu_same A.1 54 7 _⟩⟩, fun q => absurd q hne⟩
      rw [f_X12_readsLetter, a5, z_call_eq, if_neg (by decide), zl_eq, m_takes sA bA ar (by omega) (by omega), if_neg h, z_call_eq, if_pos rfl]
  · have c1 : CR (tpM M (p + k) f) e (p + k) f := tpM_cr hC
    have hcl : ∃ v, f_X9_readLetter 1 M = some (v, tpM M (p + k) f) := by
      rw [f_X9_readLetter, a3, z_call_eq, c_expectF c1 f0 (by decide), z_call_eq, c_readTapsF c1 f0, z_call_eq, zl_eq]
      by_cases hq : ((nI k - 1) * 5 + 0 - 1 : Int32) < 10
      · exact ⟨_, by rw [if_pos hq]⟩
      · exact ⟨_, by rw [if_neg hq]⟩
    obtain ⟨v, v1⟩ := hcl
    refine ⟨v, p + k, f, A, a2, v1, ⟨a4.mono (by decide) (by decide), Or.inr ⟨f0, ?_, af⟩⟩, fun q => absurd q f0⟩
    rw [f_X12_readsLetter, a5, z_call_eq, if_pos rfl]
theorem c_readLetterF {M : zM} {e p : Nat} {f : Int32} (hr : CR M e p f) (hf : f ≠ 0) : ∃ v, f_X9_readLetter 1 M = some (v, M) := by
  rw [f_X9_readLetter, c_readTapsF hr hf, z_call_eq, c_expectF hr hf (by decide), z_call_eq, c_readTapsF hr hf, z_call_eq, zl_eq, if_pos (by decide)]
  exact ⟨_, rfl⟩
theorem j_gap {M M2 : zM} {B : Nat → Nat} {e p : Nat} (hS : ST M) (hB : TB M B) (he : e ≤ 60) (hp : p ≤ e) (hC : CR M e p 0) (hS2 : ST M2) (hB2 : TB M2 B) (hr : MR M2 e p) : ∃ p' f M2', p' ≤ e ∧ f_X9_readGap 1 M = some ((), tpM M p' f) ∧ RD e M2 [54] [5, 7, 8] p' f (f_X12_readsPause 54 M2) M2' ∧ (f = 0 → p' = p + 2) := by
  by_cases h : sg B e p = 46
  · have hlt := sg_lt h (by decide)
    have c2 : CR (tpM M (p + 1) 0) e (p + 1) 0 := tpM_cr hC
    have s1 : ST (tpM M (p + 1) 0) := hS.to rfl
    have b1 : TB (tpM M (p + 1) 0) B := hB.to (tpM_o (by decide)) (tpM_o (by decide))
    have g : Fr [54] M2 (zu M2.1 54 5 (nI (p + 1)), M2.2) := Fr.zu (by simp)
    have x1 : MX [54] [5, 7, 8] M2 (zu M2.1 54 5 (nI (p + 1)), M2.2) := MX.s54 (by simp) (by simp)
    have b2 : TB (zu M2.1 54 5 (nI (p + 1)), M2.2) B := hB2.to (g.1 2 (by decide)) (g.1 58 (by decide))
    have s2 := g.st hS2
    by_cases h2 : sg B e (p + 1) = 46
    · have hlt2 := sg_lt h2 (by decide)
      have c3 : CR (tpM M (p + 1 + 1) 0) e (p + 1 + 1) 0 := tpM_cr hC
      have s3 : ST (tpM M (p + 1 + 1) 0) := hS.to rfl
      have b3 : TB (tpM M (p + 1 + 1) 0) B := hB.to (tpM_o (by decide)) (tpM_o (by decide))
      have r3 := m_stp (m_stp hr)
      have g2 : Fr [54] M2 (zu (zu M2.1 54 5 (nI (p + 1))) 54 5 (nI (p + 1 + 1)), M2.2) := g.tr (Fr.zu (M := (zu M2.1 54 5 (nI (p + 1)), M2.2)) (by simp))
      have x3 : MX [54] [5, 7, 8] M2 (zu (zu M2.1 54 5 (nI (p + 1))) 54 5 (nI (p + 1 + 1)), M2.2) := x1.tr (MX.s54 (M := (zu M2.1 54 5 (nI (p + 1)), M2.2)) (by simp) (by simp))
      have b4 : TB (zu (zu M2.1 54 5 (nI (p + 1))) 54 5 (nI (p + 1 + 1)), M2.2) B := hB2.to (g2.1 2 (by decide)) (g2.1 58 (by decide))
      have hm : f_X12_readsPause 54 M2 = if sg B e (p + 1 + 1) = 46 then some (0, (zu (zu (zu M2.1 54 5 (nI (p + 1))) 54 5 (nI (p + 1 + 1))) 54 7 (-1000 * 3 - nI (p + 1 + 1)), M2.2)) else some (1, (zu (zu M2.1 54 5 (nI (p + 1))) 54 5 (nI (p + 1 + 1)), M2.2)) := by
        rw [f_X12_readsPause, m_takes hS2 hB2 hr (by omega) (by omega), if_pos h, z_call_eq, if_neg (by decide), m_takes s2 b2 (m_stp hr) (by omega) (by omega), if_pos h2, z_call_eq, if_neg (by decide), m_here (g2.st hS2) b4 r3 (by omega) (by omega), z_call_eq, r3.1, m_wrong, z_call_eq, if_pos rfl]
      have hc : f_X9_readGap 1 M = some ((), if sg B e (p + 1 + 1) = 46 then tpM M (p + 1 + 1) (-1000 * 3 - nI (p + 1 + 1)) else tpM M (p + 1 + 1) 0) := by
        rw [f_X9_readGap, c_expect hS hB hC (by omega) (by omega), if_pos h, z_call_eq, c_expect s1 b1 c2 (by omega) (by omega), if_pos h2, z_call_eq, tpM_tpM, c_sign s3 b3 c3 (by omega) (by omega), z_call_eq]
        by_cases h3 : sg B e (p + 1 + 1) = 46
        · rw [if_pos h3, if_pos h3, c3.2.1, c_fail c3, z_call_eq, tpM_tpM]
        · rw [if_neg h3, if_neg h3]
      rw [hm, hc]
      by_cases h3 : sg B e (p + 1 + 1) = 46
      · have hne := flt_ne 3 (by decide) (p + 1 + 1) (by omega) (by decide)
        exact ⟨p + 1 + 1, -1000 * 3 - nI (p + 1 + 1), _, by omega, by rw [if_pos h3], ⟨x3.tr (MX.s54 (M := (zu (zu M2.1 54 5 (nI (p + 1))) 54 5 (nI (p + 1 + 1)), M2.2)) (j := 7) (v := -1000 * 3 - nI (p + 1 + 1)) (by simp) (by simp)), Or.inr ⟨hne, by rw [if_pos h3], zu_same (zu (zu M2.1 54 5 (nI (p + 1))) 54 5 (nI (p + 1 + 1))) 54 7 _⟩⟩, fun q => absurd q hne⟩
      · exact ⟨p + 1 + 1, 0, _, by omega, by rw [if_neg h3], ⟨x3, Or.inl ⟨rfl, by rw [if_neg h3], r3⟩⟩, fun _ => rfl⟩
    · have hne := flt_ne 1 (by decide) (p + 1) (by omega) (by decide)
      have c3 : CR (tpM M (p + 1) (-1000 * 1 - nI (p + 1))) e (p + 1) (-1000 * 1 - nI (p + 1)) := tpM_cr hC
      refine ⟨p + 1, -1000 * 1 - nI (p + 1), (zu (zu M2.1 54 5 (nI (p + 1))) 54 7 (-1000 * 1 - nI (p + 1)), M2.2), by omega, ?_, ⟨x1.tr (MX.s54 (M := (zu M2.1 54 5 (nI (p + 1)), M2.2)) (by simp) (by simp)), Or.inr ⟨hne, ?_, zu_same (zu M2.1 54 5 (nI (p + 1))) 54 7 _⟩⟩, fun q => absurd q hne⟩
      · rw [f_X9_readGap, c_expect hS hB hC (by omega) (by omega), if_pos h, z_call_eq, c_expect s1 b1 c2 (by omega) (by omega), if_neg h2, z_call_eq, tpM_tpM, c_signF c3 hne, z_call_eq, if_neg (by decide)]
      · rw [f_X12_readsPause, m_takes hS2 hB2 hr (by omega) (by omega), if_pos h, z_call_eq, if_neg (by decide), m_takes s2 b2 (m_stp hr) (by omega) (by omega), if_neg h2, z_call_eq, if_pos rfl]
  · have hne := flt_ne 1 (by decide) p (by omega) (by decide)
    have c3 : CR (tpM M p (-1000 * 1 - nI p)) e p (-1000 * 1 - nI p) := tpM_cr hC
    refine ⟨p, -1000 * 1 - nI p, (zu M2.1 54 7 (-1000 * 1 - nI p), M2.2), by omega, ?_, ⟨MX.s54 (by simp) (by simp), Or.inr ⟨hne, ?_, zu_same M2.1 54 7 _⟩⟩, fun q => absurd q hne⟩
    · rw [f_X9_readGap, c_expect hS hB hC (by omega) (by omega), if_neg h, z_call_eq, c_expectF c3 hne (by decide), z_call_eq, c_signF c3 hne, z_call_eq, if_neg (by decide)]
    · rw [f_X12_readsPause, m_takes hS2 hB2 hr (by omega) (by omega), if_neg h, z_call_eq, if_pos rfl]
