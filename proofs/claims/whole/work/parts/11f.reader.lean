/-! reading from the tape: the class's reader (cell 1) and the reference's (cell 54) -/
theorem inL_cases (x : Int32) (l n : Nat) (hl : l < 2 ^ 31) (hn : n < 2 ^ 31) : (∃ j, l ≤ j ∧ j ≤ n ∧ x = nI j ∧ ∀ M, f_X12_in (nI j) (nI l) (nI n) M = some (1, M)) ∨ (∀ M, f_X12_in x (nI l) (nI n) M = some (0, M)) := by
  by_cases h : x < nI l
  · refine Or.inr (fun M => ?_)
    rw [f_X12_in, if_pos h]
  · by_cases h2 : nI n < x
    · refine Or.inr (fun M => ?_)
      rw [f_X12_in, if_neg h, if_pos h2]
    · refine Or.inl ?_
      have h1 : ∀ M, f_X12_in x (nI l) (nI n) M = some (1, M) := fun M => by rw [f_X12_in, if_neg h, if_neg h2]
      have a1 : (l : Int) ≤ x.toInt := by
        have := Int32.le_iff_toInt_le.mp (Int32.not_lt.mp h)
        rwa [nI_toInt hl] at this
      obtain ⟨j, j1, rfl⟩ := nI_of2 (M := nI n) (nI_toInt hn) (show ¬ x < 0 from fun q => by
        have := Int32.lt_iff_toInt_lt.mp q
        have e0 : (0 : Int32).toInt = 0 := by decide
        omega) (Int32.not_lt.mp h2)
      rw [nI_toInt (by omega)] at a1
      exact ⟨j, by omega, j1, rfl, h1⟩
/-- the class's reader at a place, with a fault -/
def tpM (M : zM) (p : Nat) (f : Int32) : zM := (va_up M.1 1 (va_up (va_up (M.1 1) 3 (nI p)) 4 f), M.2)
def CR (M : zM) (e p : Nat) (f : Int32) : Prop := M.1 1 2 = nI e ∧ M.1 1 3 = nI p ∧ M.1 1 4 = f
theorem tpM_o {M : zM} {p c : Nat} {f : Int32} (h : c ≠ 1) : (tpM M p f).1 c = M.1 c := va_ne h
theorem tpM_1 {M : zM} {p k : Nat} {f : Int32} (h3 : k ≠ 3) (h4 : k ≠ 4) : (tpM M p f).1 1 k = M.1 1 k := by
  show va_up M.1 1 (va_up (va_up (M.1 1) 3 (nI p)) 4 f) 1 k = _
  rw [va_eq, va_ne h4, va_ne h3]
theorem tpM_fr {M : zM} {p : Nat} {f : Int32} : Fr [1] M (tpM M p f) := ⟨fun c hc => va_ne (by simpa using hc), rfl⟩
theorem tpM_cr {M : zM} {e p q : Nat} {f g : Int32} (h : CR M e p f) : CR (tpM M q g) e q g := by
  refine ⟨?_, ?_, ?_⟩
  · show va_up M.1 1 (va_up (va_up (M.1 1) 3 (nI q)) 4 g) 1 2 = _
    rw [va_eq, va_ne (by decide), va_ne (by decide)]
    exact h.1
  · show va_up M.1 1 (va_up (va_up (M.1 1) 3 (nI q)) 4 g) 1 3 = _
    rw [va_eq, va_ne (by decide), va_eq]
  · show va_up M.1 1 (va_up (va_up (M.1 1) 3 (nI q)) 4 g) 1 4 = _
    rw [va_eq, va_eq]
theorem va_va {α : Type} {f : Nat → α} {k : Nat} {v w : α} : va_up (va_up f k v) k w = va_up f k w := by
  funext i
  by_cases h : i = k
  · rw [h, va_eq, va_eq]
  · rw [va_ne h, va_ne h, va_ne h]
theorem va_id {α : Type} {f : Nat → α} {k : Nat} {v : α} (h : f k = v) : va_up f k v = f := by
  funext i
  by_cases e : i = k
  · rw [e, va_eq, h]
  · rw [va_ne e]
theorem va_cm {α : Type} {f : Nat → α} {k j : Nat} {v w : α} (h : k ≠ j) : va_up (va_up f k v) j w = va_up (va_up f j w) k v := by
  funext i
  by_cases e : i = k
  · rw [e, va_ne h, va_eq, va_eq]
  · by_cases e2 : i = j
    · rw [e2, va_eq, va_ne (Ne.symm h), va_eq]
    · rw [va_ne e2, va_ne e, va_ne e, va_ne e2]
theorem tpM_tpM {M : zM} {p q : Nat} {f g : Int32} : tpM (tpM M p f) q g = tpM M q g := by
  unfold tpM
  simp only
  rw [va_va, va_eq]
  rw [va_cm (k := 4) (j := 3) (by decide), va_va, va_va]
theorem tpM_id {M : zM} {e p : Nat} {f : Int32} (h : CR M e p f) : tpM M p f = M := by
  unfold tpM
  rw [va_id (f := M.1 1) h.2.1, va_id (f := M.1 1) h.2.2, va_id rfl]
def sg (B : Nat → Nat) (e p : Nat) : Int32 := if p < e then nI (B p) else -1
theorem c_sign {M : zM} {B : Nat → Nat} {e p : Nat} (hS : ST M) (hB : TB M B) (hr : CR M e p 0) (he : e ≤ 260) (hp : p < 1000) : f_X10_sign 1 M = some (sg B e p, M) := by
  unfold sg
  rw [f_X10_sign, hr.2.2, if_pos rfl, hr.2.1, if_neg (nI_pos (by omega)), hr.1]
  by_cases h : p < e
  · rw [if_neg (nI_ge h (by omega)), (ST.a hS (o := 1) (k := 0) (a := 2) (by decide)), z_rd_eq, ln2, if_neg (show ¬ Int32.ofNat 260 ≤ nI p from nI_ge (b := 260) (by omega) (by omega)), z_rd_eq, ln2, if_pos (by rw [z_ixN (by omega)]; omega), nI_clamp (by omega), (hB p (by omega)).2.1, if_pos h]
  · rw [if_pos ((nI_leI (by omega) (by omega)).mpr (by omega)), if_neg h]
theorem c_signF {M : zM} {e p : Nat} {f : Int32} (hr : CR M e p f) (hf : f ≠ 0) : f_X10_sign 1 M = some (-1, M) := by
  rw [f_X10_sign, hr.2.2, if_neg hf]
theorem c_step {M : zM} {e p : Nat} {f : Int32} (hr : CR M e p f) : f_X10_step 1 M = some ((), tpM M (p + 1) f) := by
  rw [f_X10_step, hr.2.1, zl_eq, nI_1]
  unfold tpM zu
  rw [va_cm (f := M.1 1) (k := 3) (j := 4) (by decide), va_id (f := M.1 1) hr.2.2]
theorem c_fail {M : zM} {e p : Nat} {x y : Int32} (hr : CR M e p 0) : f_X10_failAt 1 x y M = some ((), tpM M p (-1000 * x - y)) := by
  rw [f_X10_failAt, hr.2.2, if_pos rfl, zl_eq]
  unfold tpM zu
  rw [va_id (f := M.1 1) hr.2.1]
theorem c_failF {M : zM} {e p : Nat} {x y f : Int32} (hr : CR M e p f) (hf : f ≠ 0) : f_X10_failAt 1 x y M = some ((), M) := by
  rw [f_X10_failAt, hr.2.2, if_neg hf]
theorem c_expect {M : zM} {B : Nat → Nat} {e p : Nat} {w : Int32} (hS : ST M) (hB : TB M B) (hr : CR M e p 0) (he : e ≤ 260) (hp : p < 1000) : f_X10_expect 1 w M = some ((), if sg B e p = w then tpM M (p + 1) 0 else tpM M p (-1000 * 1 - nI p)) := by
  rw [f_X10_expect, c_sign hS hB hr he hp, z_call_eq]
  by_cases h : sg B e p = w
  · rw [if_pos h, if_pos h, c_step hr, z_call_eq]
  · rw [if_neg h, if_neg h, hr.2.1, c_fail hr, z_call_eq]
theorem c_expectF {M : zM} {e p : Nat} {w f : Int32} (hr : CR M e p f) (hf : f ≠ 0) (hw : w ≠ -1) : f_X10_expect 1 w M = some ((), M) := by
  rw [f_X10_expect, c_signF hr hf, z_call_eq, if_neg (Ne.symm hw), c_failF hr hf, z_call_eq]
theorem c_isOver {M : zM} {e p : Nat} (hr : CR M e p 0) (he : e ≤ 260) (hp : p < 1000) : f_X10_isOver 1 M = some (if p < e then 0 else 1, M) := by
  rw [f_X10_isOver, hr.2.2, if_pos rfl, hr.2.1, hr.1]
  by_cases h : p < e
  · rw [if_pos ((nI_ltI (by omega) (by omega)).mpr h), if_pos h]
  · rw [if_neg (nI_nlt (by omega) (by omega)), if_neg h]
theorem c_isOverF {M : zM} {e p : Nat} {f : Int32} (hr : CR M e p f) (hf : f ≠ 0) : f_X10_isOver 1 M = some (1, M) := by
  rw [f_X10_isOver, hr.2.2, if_neg hf]
theorem c_isFaulty {M : zM} {e p : Nat} {f : Int32} (hr : CR M e p f) : f_X10_isFaulty 1 M = some (if f = 0 then 0 else 1, M) := by
  rw [f_X10_isFaulty, hr.2.2]
  by_cases h : f = 0
  · rw [if_pos h, if_pos h]
  · rw [if_neg h, if_neg h]
/-- the tape is taken -/
def tkM (M : zM) (n : Nat) : zM := (va_up M.1 1 (va_up (va_up (va_up (va_up (M.1 1) 1 0) 2 (nI n)) 3 0) 4 0), M.2)
theorem c_take {M : zM} {n : Nat} (hS : ST M) (hn : n ≤ 260) : f_X10_take 1 (nI n) M = some ((), tkM M n) := by
  rw [f_X10_take, zl_eq]
  show z_rd (M.2.1 1 0) _ = _
  rw [(ST.a hS (o := 1) (k := 0) (a := 2) (by decide)), z_rd_eq, ln2, zl_eq, zl_eq, zl_eq, show z_min (nI n) (Int32.ofNat 260) = nI n from (nI_min (a := n) (b := 260) (by omega) (by omega)).trans (by rw [Nat.min_eq_left hn])]
  unfold tkM zu
  simp only [va_va, va_eq]
theorem tkM_fr {M : zM} {n : Nat} : Fr [1] M (tkM M n) := ⟨fun c hc => va_ne (by simpa using hc), rfl⟩
theorem tkM_cr {M : zM} {n : Nat} : CR (tkM M n) n 0 0 := by
  refine ⟨?_, ?_, ?_⟩
  · show va_up M.1 1 (va_up (va_up (va_up (va_up (M.1 1) 1 0) 2 (nI n)) 3 0) 4 0) 1 2 = _
    rw [va_eq, va_ne (by decide), va_ne (by decide), va_eq]
  · show va_up M.1 1 (va_up (va_up (va_up (va_up (M.1 1) 1 0) 2 (nI n)) 3 0) 4 0) 1 3 = _
    rw [va_eq, va_ne (by decide), va_eq]
    rfl
  · show va_up M.1 1 (va_up (va_up (va_up (va_up (M.1 1) 1 0) 2 (nI n)) 3 0) 4 0) 1 4 = _
    rw [va_eq, va_eq]
theorem tkM_1 {M : zM} {n : Nat} : (tkM M n).1 1 1 = nI 0 := by
  show va_up M.1 1 (va_up (va_up (va_up (va_up (M.1 1) 1 0) 2 (nI n)) 3 0) 4 0) 1 1 = _
  rw [va_eq, va_ne (by decide), va_ne (by decide), va_ne (by decide), va_eq]
  rfl
theorem c_has {M : zM} {s n : Nat} (h : M.1 1 1 = nI s) (hs : s ≤ 260) (hn : n < 2 ^ 31) : f_X10_has 1 (nI n) M = some (if n ≤ s then 1 else 0, M) := by
  rw [f_X10_has, h]
  by_cases e : n ≤ s
  · rw [if_neg (nI_nlt e (by omega)), if_pos e]
  · rw [if_pos ((nI_ltI (by omega) hn).mpr (by omega)), if_neg e]
theorem c_byteAt {M : zM} {B : Nat → Nat} {e i : Nat} (hS : ST M) (hB : TB M B) (h : M.1 1 2 = nI e) (he : e ≤ 260) (hi : i < e) : f_X10_byteAt 1 (nI i) M = some (nI (B i), M) := by
  rw [f_X10_byteAt, if_neg (nI_pos (by omega)), h, if_neg (nI_ge hi (by omega)), (ST.a hS (o := 1) (k := 0) (a := 2) (by decide)), z_rd_eq, ln2, if_neg (show ¬ Int32.ofNat 260 ≤ nI i from nI_ge (b := 260) (by omega) (by omega)), z_rd_eq, ln2, if_pos (by rw [z_ixN (by omega)]; omega), nI_clamp (by omega), (hB i (by omega)).2.1]
theorem m_octet {M : zM} {B : Nat → Nat} {i : Nat} (hS : ST M) (hB : TB M B) (hi : i < 260) : f_X12_octet 54 (nI i) M = some (nI (B i), M) := by
  obtain ⟨h1, h2, h3⟩ := hB i hi
  rw [f_X12_octet, (ST.a hS (o := 54) (k := 3) (a := 58) (by decide)), z_rd_eq, ln58, if_pos (by rw [z_ixN (by omega)]; omega), nI_clamp (by omega), h3, (sb_byte _ h1).1]
def MR (M : zM) (e p : Nat) : Prop := M.1 54 5 = nI p ∧ M.1 54 6 = nI e
theorem m_here {M : zM} {B : Nat → Nat} {e p : Nat} (hS : ST M) (hB : TB M B) (hr : MR M e p) (he : e ≤ 260) (hp : p < 1000) : f_X12_here 54 M = some (sg B e p, M) := by
  unfold sg
  rw [f_X12_here, hr.1, hr.2]
  by_cases h : p < e
  · obtain ⟨h1, h2, h3⟩ := hB p (by omega)
    rw [if_neg (nI_ge h (by omega)), (ST.a hS (o := 54) (k := 3) (a := 58) (by decide)), z_rd_eq, ln58, if_pos (by rw [z_ixN (by omega)]; omega), nI_clamp (by omega), h3, (sb_byte _ h1).1, if_pos h]
  · rw [if_pos ((nI_leI (by omega) (by omega)).mpr (by omega)), if_neg h]
-- check
theorem rem256 {j : Nat} (h : j < 2 ^ 31) : nI j - nI j / 256 * 256 = nI (j % 256) := pk_rem (d := 256) h (by omega) (by omega)
theorem check_lp {M M2 : zM} {N B : Nat → Nat} {e : Nat} (hS : ST M) (hS2 : ST M2) (hC : CS M 3 N) (hN : MN M2 55 N) (hR : NR N) (hB : TB M B) (hB2 : TB M2 B) (he : M.1 1 2 = nI e) (h24 : e ≤ 24) : ∀ m n i, i + m = e → m < n → ∃ v, f_X11_check_34 0 (nI e) n (nI i) M = some (v, M) ∧ f_X12_check_28 54 (nI e) n (nI i) M2 = some (v, M2) := by
  intro m
  induction m with
  | zero =>
    intro n i hi hn
    obtain ⟨n, rfl⟩ : ∃ m, n = m + 1 := ⟨n - 1, by omega⟩
    obtain rfl : i = e := by omega
    refine ⟨-1, ?_, ?_⟩
    · rw [f_X11_check_34, if_pos ((nI_leI (by omega) (by omega)).mpr (Nat.le_refl _))]
    · rw [f_X12_check_28, if_pos ((nI_leI (by omega) (by omega)).mpr (Nat.le_refl _))]
  | succ m ih =>
    intro n i hi hn
    obtain ⟨n, rfl⟩ : ∃ m, n = m + 1 := ⟨n - 1, by omega⟩
    obtain ⟨v, v1, v2⟩ := ih n (i + 1) (by omega) (by omega)
    have hb := (hB i (by omega)).1
    have hs := hR.2.1 i (by omega)
    have hg := hR.1 i (by omega)
    have hz := hR.2.2.2.2.2.2.2.2.2 i (by omega)
    have c1 : M.1 4 i = nI (N (24 + i)) := hC.1 i (by omega)
    have e1 : f_X11_check_34 0 (nI e) (n + 1) (nI i) M = if nI (B i) = nI (N (24 + i) % 256) then f_X11_check_34 0 (nI e) n (nI (i + 1)) M else some (nI i, M) := by
      rw [f_X11_check_34, if_neg (nI_ge (by omega) (by omega)), (ST.a hS (o := 0) (k := 0) (a := 1) (by decide)), z_rd_eq, c_byteAt hS hB he (by omega) (by omega), z_call_eq, (ST.a hS (o := 0) (k := 1) (a := 3) (by decide)), z_rd_eq, (ST.a hS (o := 3) (k := 0) (a := 4) (by decide)), z_rd_eq, ln4, if_pos (by rw [z_ixN (by omega)]; omega), nI_clamp (by omega), c1, rem256 (by omega), zl_eq, nI_1]
    have e2 : f_X12_check_28 54 (nI e) (n + 1) (nI i) M2 = if nI (B i) = nI (N (24 + i) % 256) then f_X12_check_28 54 (nI e) n (nI (i + 1)) M2 else some (nI i, M2) := by
      rw [f_X12_check_28, if_neg (nI_ge (by omega) (by omega)), m_octet hS2 hB2 (by omega), z_call_eq, (ST.a hS2 (o := 54) (k := 0) (a := 55) (by decide)), z_rd_eq, ln55, show (0 + nI i : Int32) = nI i by rw [Int32.zero_add], if_pos (by rw [z_ixN (by omega)]; omega), nI_clamp (by omega), hN i (by omega)]
      by_cases hgi : N i = 1
      · rw [hgi, if_pos (show nI 1 = 1 from rfl), z_rd_eq, ln55, show (24 + nI i : Int32) = nI (24 + i) by simp only [lit, nI_add], if_pos (by rw [z_ixN (by omega)]; omega), nI_clamp (by omega), hN (24 + i) (by omega), rem256 (by omega), f_X12_check_67, zl_eq, nI_1]
      · have h0 : N i = 0 := by omega
        rw [h0, if_neg (by decide), f_X12_check_67, zl_eq, nI_1, hz h0]
        rfl
    rw [e1, e2]
    by_cases hq : nI (B i) = nI (N (24 + i) % 256)
    · rw [if_pos hq, if_pos hq]
      exact ⟨v, v1, v2⟩
    · rw [if_neg hq, if_neg hq]
      exact ⟨_, rfl, rfl⟩
theorem TB.tk {M : zM} {B : Nat → Nat} {n : Nat} (h : TB M B) : TB (tkM M n) B := h.to (tkM_fr.1 2 (by decide)) (tkM_fr.1 58 (by decide))
/-- behind a taking, with the reader moved, the reference's tape empty, and other numbers of cell 54 that do not matter -/
theorem Inv.took {M M2 : zM} {N K : Nat → Nat} {B : Nat → Nat} {l : List Nat} (hS : ST M) (hR : NR N) (hN : MN M 55 N) (hC : CS M 3 N) (hK : KP M K) (hL : LW M) (hB : TB M B) (hF : Fr l M M2) (hl : ∀ c ∈ impC, c ∉ l) (h1 : M2.1 1 1 = nI 0) (h2 : M2.1 54 4 = nI 0) (e13 : M2.1 54 13 = M.1 54 13) (e41 : M2.1 54 41 = M.1 54 41) : Inv M2 := by
  refine Inv.scr hS hR hN hC hK hL hF hl (TP.put (n := 0) (by omega) h1 h2 (hB.to (hF.1 2 (hl 2 (by decide))) (hF.1 58 (hl 58 (by decide))))) e13 e41
theorem p_check : ok_check Inv := by
  intro M hI a
  obtain ⟨N, K, hS, hR, hN, hC, hK, hT, hL⟩ := id hI
  obtain ⟨s, B, q1, q2, q3, q4⟩ := hT.get
  rcases f_in_cases a 24 (by omega) with ⟨n, hn, rfl⟩ | ha
  · by_cases hs : n ≤ s
    · have s1 : ST (tkM M n) := hS.to rfl
      have f2 : Fr [54] (tkM M n) (zu (tkM M n).1 54 4 0, (tkM M n).2) := Fr.zu (by simp)
      have s2 := f2.st s1
      obtain ⟨v, v1, v2⟩ := check_lp (M := tkM M n) (M2 := (zu (tkM M n).1 54 4 0, (tkM M n).2)) s1 s2 (hC.to (fun c h1 h2 => tkM_fr.1 c (by simp; omega))) ((hN.to (tkM_fr.1 55 (by decide))).to (f2.1 55 (by decide))) hR q4.tk (q4.tk.to (f2.1 2 (by decide)) (f2.1 58 (by decide))) tkM_cr.1 hn n zF 0 (by omega) (by unfold zF; omega)
      refine ⟨v, tkM M n, (zu (tkM M n).1 54 4 0, (tkM M n).2), ?_, ?_, ?_⟩
      · rw [f_X11_check, e_within, show (24 : Int32) = nI 24 from rfl, e_in1 (by omega) hn, z_call_eq, if_neg (by decide), (ST.a hS (o := 0) (k := 0) (a := 1) (by decide)), z_rd_eq, c_has q2 q1 (by omega), if_pos hs, z_call_eq, if_neg (by decide), (ST.a hS (o := 0) (k := 0) (a := 1) (by decide)), z_rd_eq, c_take hS (by omega), z_call_eq]
        exact v1
      · rw [f_X12_check, show (24 : Int32) = nI 24 from rfl, e_in1 (by omega) hn, z_call_eq, if_neg (by decide), tkM_fr.1 54 (by decide), q3, if_pos ((nI_leI (by omega) (by omega)).mpr hs), zl_eq]
        exact v2
      · refine Inv.took hS hR hN hC hK hL q4 (l := [1, 54]) ((tkM_fr.mono (by decide)).tr (f2.mono (by decide))) (by decide) ?_ ?_ ?_ ?_
        · rw [f2.1 1 (by decide)]; exact tkM_1
        · exact zu_same (tkM M n).1 54 4 0
        · show zu (tkM M n).1 54 4 0 54 13 = _
          rw [zu_ne _ _ _ (by decide), tkM_fr.1 54 (by decide)]
        · show zu (tkM M n).1 54 4 0 54 41 = _
          rw [zu_ne _ _ _ (by decide), tkM_fr.1 54 (by decide)]
    · refine ⟨-2, M, M, ?_, ?_, hI⟩
      · rw [f_X11_check, e_within, show (24 : Int32) = nI 24 from rfl, e_in1 (by omega) hn, z_call_eq, if_neg (by decide), (ST.a hS (o := 0) (k := 0) (a := 1) (by decide)), z_rd_eq, c_has q2 q1 (by omega), if_neg hs, z_call_eq, if_pos rfl]
      · rw [f_X12_check, show (24 : Int32) = nI 24 from rfl, e_in1 (by omega) hn, z_call_eq, if_neg (by decide), q3, if_neg (fun h => hs ((nI_leI (by omega) (by omega)).mp h))]
  · refine ⟨-2, M, M, ?_, ?_, hI⟩
    · rw [f_X11_check, e_within, show (24 : Int32) = nI 24 from rfl, e_in0 (by omega) ha, z_call_eq, if_pos rfl]
    · rw [f_X12_check, show (24 : Int32) = nI 24 from rfl, e_in0 (by omega) ha, z_call_eq, if_pos rfl]
