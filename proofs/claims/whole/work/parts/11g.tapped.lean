/-! letters to taps -/
theorem let_out : ∀ b, b < 256 → ¬ (65 ≤ b ∧ b ≤ 90) → (nI b - 65 < 0 ∨ nI 25 < nI b - 65) := by decide +kernel
def kk (k : Nat) : Nat := if k = 10 then 2 else if k ≤ 10 then k else k - 1
theorem kk_lt {k : Nat} (h : k < 26) : kk k < 25 := by unfold kk; by_cases h1 : k = 10 <;> by_cases h2 : k ≤ 10 <;> simp [h1, h2] <;> omega
def tps (k : Nat) : Nat := kk k / 5 + kk k % 5
theorem rem5 {j : Nat} (h : j < 2 ^ 31) : nI j - nI j / 5 * 5 = nI (j % 5) := pk_rem (d := 5) h (by omega) (by omega)
theorem div5 {j : Nat} (h : j < 2 ^ 31) : nI j / 5 = nI (j / 5) := nI_div (d := 5) h (by omega) (by omega)
theorem c_tapsOf {k : Nat} (h : k < 26) (M : zM) : f_X9_tapsOf (nI k) M = some (nI (tps k + 2), M) := by
  have hk := kk_lt h
  have e : f_X9_tapsOf (nI k) M = f_X9_tapsOf_23 (nI (kk k)) M := by
    rw [f_X9_tapsOf]
    unfold kk
    by_cases h1 : k = 10
    · rw [h1, if_pos rfl, if_pos (show nI 10 = 10 from rfl)]; rfl
    · rw [if_neg (show ¬ nI k = 10 from fun q => h1 ((nI_eq (b := 10) (by omega) (by omega)).mp q)), if_neg h1]
      by_cases h2 : k ≤ 10
      · rw [if_pos (show nI k ≤ 10 from (nI_leI (b := 10) (by omega) (by omega)).mpr h2), if_pos h2]
      · rw [if_neg (show ¬ nI k ≤ 10 from fun q => h2 ((nI_leI (b := 10) (by omega) (by omega)).mp q)), if_neg h2, show nI k - 1 = nI (k - 1) from nI_sub (b := 1) (by omega)]
  rw [e, f_X9_tapsOf_23, rem5 (by omega), div5 (by omega), nI_1, nI_add, nI_1]
  unfold tps
  congr 3
  omega
theorem m_tapped_st {M : zM} {k : Nat} (hk : k < 26) (e : Int32) (n : Nat) (S i : Nat) : (if nI k = 10 then (f_X12_tapped_75 54 e (f_X12_tapped_33 54 e n) (nI S) (nI i) 2 M) else (f_X12_tapped_75 54 e (f_X12_tapped_33 54 e n) (nI S) (nI i) (nI k) M)) = f_X12_tapped_33 54 e n (nI (S + tps k + 3)) (nI (i + 1)) M := by
  have hq := kk_lt hk
  have e1 : (if nI k = 10 then (f_X12_tapped_75 54 e (f_X12_tapped_33 54 e n) (nI S) (nI i) 2 M) else (f_X12_tapped_75 54 e (f_X12_tapped_33 54 e n) (nI S) (nI i) (nI k) M)) = f_X12_tapped_88 54 e (f_X12_tapped_33 54 e n) (nI S) (nI i) (nI (kk k)) M := by
    unfold kk
    by_cases h1 : k = 10
    · rw [h1, if_pos rfl, if_pos (show nI 10 = 10 from rfl), f_X12_tapped_75, if_pos (by decide)]; rfl
    · rw [if_neg (show ¬ nI k = 10 from fun q => h1 ((nI_eq (b := 10) (by omega) (by omega)).mp q)), if_neg h1, f_X12_tapped_75]
      by_cases h2 : k ≤ 10
      · rw [if_pos (show nI k ≤ 10 from (nI_leI (b := 10) (by omega) (by omega)).mpr h2), if_pos h2]
      · rw [if_neg (show ¬ nI k ≤ 10 from fun q => h2 ((nI_leI (b := 10) (by omega) (by omega)).mp q)), if_neg h2, show nI k - 1 = nI (k - 1) from nI_sub (b := 1) (by omega), zl_eq]
  rw [e1, f_X12_tapped_88, rem5 (by omega), div5 (by omega), zl_eq, zl_eq, nI_1, nI_add, nI_add, show (3 : Int32) = nI 3 from rfl, nI_add]
  unfold tps
  rw [Nat.add_assoc]
  congr 2
  omega
theorem i32_sa (a b c : Int32) : (a - b) + c = (a + c) - b := by
  rw [Int32.sub_eq_add_neg, Int32.sub_eq_add_neg, Int32.add_assoc, Int32.add_assoc, Int32.add_comm (-b) c]
theorem tapped_lp {M M2 : zM} {B : Nat → Nat} {e : Nat} (hS : ST M) (hS2 : ST M2) (hB : TB M B) (hB2 : TB M2 B) (he : CR M e 0 0) (h1 : 1 ≤ e) (h40 : e ≤ 40) : ∀ m n i T, i + m = e → m < n → T ≤ 100 * i → ∃ v w p f, f_X9_lengthOf_5 1 n (nI (T + 5 * i) - nI 2) (nI i) (tpM M i 0) = some (w, tpM M p f) ∧ f_X12_tapped_33 54 (nI e) n (nI (2 * e - 2 + T + 3 * i)) (nI i) M2 = some (v, M2) ∧ (if f = 0 then w = v else f = v) := by
  intro m
  induction m with
  | zero =>
    intro n i T hi hn hT
    obtain ⟨n, rfl⟩ : ∃ m, n = m + 1 := ⟨n - 1, by omega⟩
    obtain rfl : i = e := by omega
    refine ⟨nI (2 * i - 2 + T + 3 * i), nI (T + 5 * i) - nI 2, i, 0, ?_, ?_, ?_⟩
    · rw [f_X9_lengthOf_5]
      by_cases hq : i = 40
      · rw [hq, if_pos (by decide)]
      · rw [if_neg (show ¬ (40 : Int32) ≤ nI i from nI_ge (b := 40) (by omega) (by omega)), c_isOver (tpM_cr he) (by omega) (by omega), if_neg (by omega), z_call_eq, if_neg (by decide)]
    · rw [f_X12_tapped_33, if_pos ((nI_leI (by omega) (by omega)).mpr (Nat.le_refl _))]
    · rw [if_pos rfl, nI_sub (by omega)]
      congr 1
      omega
  | succ m ih =>
    intro n i T hi hn hT
    obtain ⟨n, rfl⟩ : ∃ m, n = m + 1 := ⟨n - 1, by omega⟩
    have hb := (hB i (by omega)).1
    have hsg : sg B e i = nI (B i) := by unfold sg; rw [if_pos (by omega)]
    have s1 : ST (tpM M i 0) := hS.to rfl
    have b1 : TB (tpM M i 0) B := hB.to (tpM_o (by decide)) (tpM_o (by decide))
    rw [f_X9_lengthOf_5, if_neg (show ¬ (40 : Int32) ≤ nI i from nI_ge (b := 40) (by omega) (by omega)), c_isOver (tpM_cr he) (by omega) (by omega), if_pos (by omega), z_call_eq, if_pos rfl, c_sign s1 b1 (tpM_cr he) (by omega) (by omega), z_call_eq, hsg, zl_eq, e_within]
    rw [f_X12_tapped_33, if_neg (nI_ge (by omega) (by omega)), m_octet hS2 hB2 (by omega), z_call_eq, zl_eq]
    by_cases hl : 65 ≤ B i ∧ B i ≤ 90
    · obtain ⟨v, w, p, f, v1, v2, v3⟩ := ih n (i + 1) (T + tps (B i - 65)) (by omega) (by omega) (by
        have := kk_lt (k := B i - 65) (by omega)
        unfold tps
        omega)
      refine ⟨v, w, p, f, ?_, ?_, v3⟩
      · rw [show nI (B i) - 65 = nI (B i - 65) from nI_sub (b := 65) hl.1, show (25 : Int32) = nI 25 from rfl, e_in1 (by omega) (by omega), z_call_eq, if_neg (by decide), c_step (tpM_cr he), z_call_eq, c_tapsOf (by omega), z_call_eq, zl_eq, zl_eq, nI_1, tpM_tpM, i32_sa, ← v1]
        congr 2
        rw [show (2 : Int32) = nI 2 from rfl, nI_add, nI_1, nI_add]
        congr 1
        omega
      · rw [show nI (B i) - 65 = nI (B i - 65) from nI_sub (b := 65) hl.1, show (25 : Int32) = nI 25 from rfl, e_in1 (by omega) (by omega), z_call_eq, if_neg (by decide), m_tapped_st (by omega), ← v2]
        congr 2
        omega
    · have ho := let_out _ hb hl
      refine ⟨-1000 - nI i, -1, i, -1000 * 1 - nI i, ?_, ?_, ?_⟩
      · rw [show (25 : Int32) = nI 25 from rfl, e_in0 (by omega) ho, z_call_eq, if_pos rfl, (tpM_cr (q := i) (g := 0) he).2.1, c_fail (tpM_cr he), z_call_eq, tpM_tpM]
      · rw [show (25 : Int32) = nI 25 from rfl, e_in0 (by omega) ho, z_call_eq, if_pos rfl]
      · have hne : (-1000 * 1 - nI i : Int32) ≠ 0 := (show ∀ i, i < 41 → (-1000 * 1 - nI i : Int32) ≠ 0 by decide) i (by omega)
        rw [if_neg hne]
        rfl
theorem p_tapped : ok_tapped Inv := by
  intro M hI a
  obtain ⟨N, K, hS, hR, hN, hC, hK, hT, hL⟩ := id hI
  obtain ⟨s, B, q1, q2, q3, q4⟩ := hT.get
  rcases inL_cases a 1 40 (by omega) (by omega) with ⟨n, hn1, hn, rfl, hin⟩ | ha
  · by_cases hs : n ≤ s
    · have s1 : ST (tkM M n) := hS.to rfl
      have hid : tpM (tkM M n) 0 0 = tkM M n := tpM_id tkM_cr
      have t1 : TB (tkM M n) B := q4.tk
      have hx : ∀ p f, ∃ v w p' f', f_X9_lengthOf 1 (tkM M n) = some (w, tpM (tkM M n) p' f') ∧ f_X12_tapped_33 54 (nI n) zF (2 * nI n - 2) 0 (zu (tpM (tkM M n) p f).1 54 4 0, (tpM (tkM M n) p f).2) = some (v, (zu (tpM (tkM M n) p f).1 54 4 0, (tpM (tkM M n) p f).2)) ∧ (if f' = 0 then w = v else f' = v) := by
        intro p f
        have f2 : Fr [54] (tpM (tkM M n) p f) (zu (tpM (tkM M n) p f).1 54 4 0, (tpM (tkM M n) p f).2) := Fr.zu (by simp)
        obtain ⟨v, w, p', f', v1, v2, v3⟩ := tapped_lp (M := tkM M n) (M2 := (zu (tpM (tkM M n) p f).1 54 4 0, (tpM (tkM M n) p f).2)) s1 (hS.to rfl) t1 (t1.to (by rw [f2.1 2 (by decide), tpM_o (by decide)]) (by rw [f2.1 58 (by decide), tpM_o (by decide)])) tkM_cr hn1 hn n zF 0 0 (by omega) (by unfold zF; omega) (by omega)
        refine ⟨v, w, p', f', ?_, ?_, v3⟩
        · rw [hid] at v1
          exact v1
        · rw [show (2 : Int32) = nI 2 from rfl, nI_mul, nI_sub (by omega)]
          exact v2
      obtain ⟨v0, w, p, f, w1, _, _⟩ := hx 0 0
      obtain ⟨v, w', p', f', w1', w2', w3⟩ := hx p f
      rw [w1] at w1'
      have e1 := Option.some.inj w1'
      have e2 : w = w' := congrArg Prod.fst e1
      have e3 : tpM (tkM M n) p f = tpM (tkM M n) p' f' := congrArg Prod.snd e1
      have e4 : f = f' := by
        have : (tpM (tkM M n) p f).1 1 4 = (tpM (tkM M n) p' f').1 1 4 := by rw [e3]
        rw [(tpM_cr tkM_cr).2.2, (tpM_cr tkM_cr).2.2] at this
        exact this
      have f2 : Fr [54] (tpM (tkM M n) p f) (zu (tpM (tkM M n) p f).1 54 4 0, (tpM (tkM M n) p f).2) := Fr.zu (by simp)
      refine ⟨v, tpM (tkM M n) p f, (zu (tpM (tkM M n) p f).1 54 4 0, (tpM (tkM M n) p f).2), ?_, ?_, ?_⟩
      · have s3 : ST (tpM (tkM M n) p f) := hS.to rfl
        rw [f_X11_tapped, e_within, show (40 : Int32) = nI 40 from rfl, show (1 : Int32) = nI 1 from rfl, hin, z_call_eq, if_neg (by decide), (ST.a hS (o := 0) (k := 0) (a := 1) (by decide)), z_rd_eq, c_has q2 q1 (by omega), if_pos hs, z_call_eq, if_neg (by decide), (ST.a hS (o := 0) (k := 0) (a := 1) (by decide)), z_rd_eq, c_take hS (by omega), z_call_eq, (ST.a s1 (o := 0) (k := 0) (a := 1) (by decide)), z_rd_eq, w1, z_call_eq, (ST.a s3 (o := 0) (k := 0) (a := 1) (by decide)), z_rd_eq, c_isFaulty (tpM_cr tkM_cr), z_call_eq]
        rw [← e4] at w3
        by_cases h0 : f = 0
        · rw [if_pos h0, if_pos rfl]
          rw [if_pos h0] at w3
          rw [e2, w3]
        · rw [if_neg h0, if_neg (by decide), (ST.a s3 (o := 0) (k := 0) (a := 1) (by decide)), z_rd_eq, (tpM_cr tkM_cr).2.2]
          rw [if_neg h0] at w3
          rw [w3]
      · rw [f_X12_tapped, show (40 : Int32) = nI 40 from rfl, show (1 : Int32) = nI 1 from rfl, hin, z_call_eq, if_neg (by decide), tpM_o (by decide), tkM_fr.1 54 (by decide), q3, if_pos ((nI_leI (by omega) (by omega)).mpr hs), zl_eq, zl_eq]
        exact w2'
      · refine Inv.took hS hR hN hC hK hL q4 (l := [1, 54]) (((tkM_fr.mono (by decide)).tr (tpM_fr.mono (by decide))).tr (f2.mono (by decide))) (by decide) ?_ ?_ ?_ ?_
        · rw [f2.1 1 (by decide), tpM_1 (by decide) (by decide)]; exact tkM_1
        · exact zu_same (tpM (tkM M n) p f).1 54 4 0
        · show zu (tpM (tkM M n) p f).1 54 4 0 54 13 = _
          rw [zu_ne _ _ _ (by decide), tpM_o (by decide), tkM_fr.1 54 (by decide)]
        · show zu (tpM (tkM M n) p f).1 54 4 0 54 41 = _
          rw [zu_ne _ _ _ (by decide), tpM_o (by decide), tkM_fr.1 54 (by decide)]
    · refine ⟨-1, M, M, ?_, ?_, hI⟩
      · rw [f_X11_tapped, e_within, show (40 : Int32) = nI 40 from rfl, show (1 : Int32) = nI 1 from rfl, hin, z_call_eq, if_neg (by decide), (ST.a hS (o := 0) (k := 0) (a := 1) (by decide)), z_rd_eq, c_has q2 q1 (by omega), if_neg hs, z_call_eq, if_pos rfl]
      · rw [f_X12_tapped, show (40 : Int32) = nI 40 from rfl, show (1 : Int32) = nI 1 from rfl, hin, z_call_eq, if_neg (by decide), q3, if_neg (fun h => hs ((nI_leI (by omega) (by omega)).mp h))]
  · refine ⟨-1, M, M, ?_, ?_, hI⟩
    · rw [f_X11_tapped, e_within, show (40 : Int32) = nI 40 from rfl, show (1 : Int32) = nI 1 from rfl, ha, z_call_eq, if_pos rfl]
    · rw [f_X12_tapped, show (40 : Int32) = nI 40 from rfl, show (1 : Int32) = nI 1 from rfl, ha, z_call_eq, if_pos rfl]
