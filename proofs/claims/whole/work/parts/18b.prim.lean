/-! reading a law: single steps of the class -/
theorem ST38 {M : zM} (hS : ST M) : M.2.1 38 0 = some 1 := hS.a (by decide)
def KC (M : zM) (B : Nat → Nat) (q e p s : Nat) (f : Int32) : Prop := ST M ∧ TB M B ∧ CR M e p f ∧ M.1 q 6 = nI s ∧ M.2.1 38 1 = some q
/-- what a reading may change in the class: the reader's place and fault, the draft's codes from s on, their number -/
def KF (q s : Nat) (M M' : zM) : Prop := (∀ c, c ≠ 1 → c ≠ q → c ≠ q + 1 → c ≠ q + 2 → M'.1 c = M.1 c) ∧ (∀ j, j ≠ 3 → j ≠ 4 → M'.1 1 j = M.1 1 j) ∧ (∀ j, j ≠ 6 → M'.1 q j = M.1 q j) ∧ (∀ k, k < s → M'.1 (q + 1) k = M.1 (q + 1) k ∧ M'.1 (q + 2) k = M.1 (q + 2) k) ∧ M'.2 = M.2
theorem KF.rf {q s : Nat} {M : zM} : KF q s M M := ⟨fun _ _ _ _ _ => rfl, fun _ _ _ => rfl, fun _ _ => rfl, fun _ _ => ⟨rfl, rfl⟩, rfl⟩
theorem KF.tr {q s s1 : Nat} {M M1 M2 : zM} (h1 : KF q s M M1) (h2 : KF q s1 M1 M2) (hs : s ≤ s1) : KF q s M M2 := by
  obtain ⟨a1, a2, a3, a4, a5⟩ := h1
  obtain ⟨b1, b2, b3, b4, b5⟩ := h2
  exact ⟨fun c x y z w => (b1 c x y z w).trans (a1 c x y z w), fun j x y => (b2 j x y).trans (a2 j x y), fun j x => (b3 j x).trans (a3 j x), fun k hk => ⟨(b4 k (by omega)).1.trans (a4 k hk).1, (b4 k (by omega)).2.trans (a4 k hk).2⟩, b5.trans a5⟩
theorem KF.mono {q s s' : Nat} {M M' : zM} (h : KF q s M M') (hs : s' ≤ s) : KF q s' M M' := KF.rf.tr h hs
theorem KF.tp {M : zM} {q s p : Nat} {f : Int32} (hq : LO q) : KF q s M (tpM M p f) := by
  have hq1 : q ≠ 1 ∧ q + 1 ≠ 1 ∧ q + 2 ≠ 1 := by rcases hq with rfl | rfl <;> decide
  exact ⟨fun c h _ _ _ => tpM_o h, fun j h3 h4 => tpM_1 h3 h4, fun j _ => by rw [tpM_o hq1.1], fun k _ => ⟨by rw [tpM_o hq1.2.1], by rw [tpM_o hq1.2.2]⟩, rfl⟩
theorem KC.tp {M : zM} {B : Nat → Nat} {q e p s p' : Nat} {f f' : Int32} (hq : LO q) (h : KC M B q e p s f) : KC (tpM M p' f') B q e p' s f' := by
  have hq1 : q ≠ 1 := by rcases hq with rfl | rfl <;> decide
  obtain ⟨h1, h2, h3, h4, h5⟩ := h
  exact ⟨h1.to rfl, h2.to (tpM_o (by decide)) (tpM_o (by decide)), tpM_cr h3, by rw [tpM_o hq1]; exact h4, h5⟩
theorem k_add {M : zM} {B : Nat → Nat} {q e p s : Nat} {f x v : Int32} (hq : LO q) (h : KC M B q e p s f) (hs : s < 240) : ∃ M', f_X4_add q x v M = some (nI s, M') ∧ KC M' B q e p (s + 1) f ∧ KF q s M M' ∧ M'.1 (q + 1) s = x ∧ M'.1 (q + 2) s = v := by
  obtain ⟨l1, l2, l3, l4, l5, l6, l7⟩ := hq.lns
  obtain ⟨r1, r2, r3, r4, r5, r6, r7⟩ := hq.rs h.1
  obtain ⟨h1, h2, h3, h4, h5⟩ := h
  have hq2 : 20 < q ∧ q < 30 := by rcases hq with rfl | rfl <;> omega
  have e6 : zu (zu M.1 (q + 1) s x) (q + 2) s v q 6 = nI s := by rw [zu_cell _ _ _ (by omega), zu_cell _ _ _ (by omega)]; exact h4
  refine ⟨(zu (zu (zu M.1 (q + 1) s x) (q + 2) s v) q 6 (nI (s + 1)), M.2), ?_, ⟨h1.to rfl, ?_, ?_, ?_, h5⟩, ⟨?_, ?_, ?_, ?_, rfl⟩, ?_, ?_⟩
  · rw [f_X4_add, zl_eq, h4, if_neg (nI_pos (by omega)), r1, z_rd_eq, l1, if_neg (show ¬ Int32.ofNat 240 ≤ nI s from nI_ge (b := 240) hs (by omega)), z_rd_eq, l1, if_pos (by rw [z_ixN (by omega)]; omega), zl_eq, nI_clamp (by omega), r2, z_rd_eq, l2, if_pos (by rw [z_ixN (by omega)]; omega), zl_eq, zl_eq]
    show some (nI s, (zu (zu (zu M.1 (q + 1) s x) (q + 2) s v) q 6 (zu (zu M.1 (q + 1) s x) (q + 2) s v q 6 + 1), M.2)) = _
    rw [e6, nI_1]
  · refine h2.to ?_ ?_
    · show zu (zu (zu M.1 (q + 1) s x) (q + 2) s v) q 6 (nI (s + 1)) 2 = _
      rw [zu_cell _ _ _ (by omega), zu_cell _ _ _ (by omega), zu_cell _ _ _ (by omega)]
    · show zu (zu (zu M.1 (q + 1) s x) (q + 2) s v) q 6 (nI (s + 1)) 58 = _
      rw [zu_cell _ _ _ (by omega), zu_cell _ _ _ (by omega), zu_cell _ _ _ (by omega)]
  · have : zu (zu (zu M.1 (q + 1) s x) (q + 2) s v) q 6 (nI (s + 1)) 1 = M.1 1 := by rw [zu_cell _ _ _ (by omega), zu_cell _ _ _ (by omega), zu_cell _ _ _ (by omega)]
    unfold CR
    show zu (zu (zu M.1 (q + 1) s x) (q + 2) s v) q 6 (nI (s + 1)) 1 2 = _ ∧ zu (zu (zu M.1 (q + 1) s x) (q + 2) s v) q 6 (nI (s + 1)) 1 3 = _ ∧ zu (zu (zu M.1 (q + 1) s x) (q + 2) s v) q 6 (nI (s + 1)) 1 4 = _
    rw [this]
    exact h3
  · exact zu_same _ _ _ _
  · intro c a b d g
    show zu (zu (zu M.1 (q + 1) s x) (q + 2) s v) q 6 (nI (s + 1)) c = _
    rw [zu_cell _ _ _ b, zu_cell _ _ _ g, zu_cell _ _ _ d]
  · intro j _ _
    show zu (zu (zu M.1 (q + 1) s x) (q + 2) s v) q 6 (nI (s + 1)) 1 j = _
    rw [zu_cell _ _ _ (by omega), zu_cell _ _ _ (by omega), zu_cell _ _ _ (by omega)]
  · intro j hj
    show zu (zu (zu M.1 (q + 1) s x) (q + 2) s v) q 6 (nI (s + 1)) q j = _
    rw [zu_ne _ _ _ hj, zu_cell _ _ _ (by omega), zu_cell _ _ _ (by omega)]
  · intro k hk
    constructor
    · show zu (zu (zu M.1 (q + 1) s x) (q + 2) s v) q 6 (nI (s + 1)) (q + 1) k = _
      rw [zu_cell _ _ _ (by omega), zu_cell _ _ _ (by omega), zu_ne _ _ _ (by omega)]
    · show zu (zu (zu M.1 (q + 1) s x) (q + 2) s v) q 6 (nI (s + 1)) (q + 2) k = _
      rw [zu_cell _ _ _ (by omega), zu_ne _ _ _ (by omega), zu_cell _ _ _ (by omega)]
  · show zu (zu (zu M.1 (q + 1) s x) (q + 2) s v) q 6 (nI (s + 1)) (q + 1) s = _
    rw [zu_cell _ _ _ (by omega), zu_cell _ _ _ (by omega), zu_same]
  · show zu (zu (zu M.1 (q + 1) s x) (q + 2) s v) q 6 (nI (s + 1)) (q + 2) s = _
    rw [zu_cell _ _ _ (by omega), zu_same]
/-- an addition in any state -/
theorem k_addA {M : zM} {B : Nat → Nat} {q e p s : Nat} {f x v : Int32} (hq : LO q) (h : KC M B q e p s f) (hs : s ≤ 240) : ∃ M' s', f_X4_add q x v M = some (nI s, M') ∧ KC M' B q e p s' f ∧ KF q s M M' ∧ s ≤ s' ∧ s' ≤ 240 := by
  by_cases hlt : s < 240
  · obtain ⟨M', i1, i2, i3, _⟩ := k_add (x := x) (v := v) hq h hlt
    exact ⟨M', s + 1, i1, i2, i3, by omega, by omega⟩
  · obtain ⟨l1, l2, l3, l4, l5, l6, l7⟩ := hq.lns
    obtain ⟨r1, r2, r3, r4, r5, r6, r7⟩ := hq.rs h.1
    refine ⟨M, s, ?_, h, KF.rf, Nat.le_refl _, hs⟩
    rw [f_X4_add, zl_eq, h.2.2.2.1, if_neg (nI_pos (by omega)), r1, z_rd_eq, l1, if_pos (show Int32.ofNat 240 ≤ nI s from nI_le (a := 240) (by omega) (by omega))]
theorem k_lead {M : zM} {B : Nat → Nat} {q e p s k : Nat} {f : Int32} (hq : LO q) (h : KC M B q e p s f) (hs : s ≤ 240) (hk : k < s) : ∃ M', f_X4_leadToHere q (nI k) M = some ((), M') ∧ KC M' B q e p s f ∧ KF q k M M' ∧ M'.1 (q + 1) = M.1 (q + 1) ∧ M'.1 (q + 2) = va_up (M.1 (q + 2)) k (nI s) := by
  obtain ⟨l1, l2, l3, l4, l5, l6, l7⟩ := hq.lns
  obtain ⟨r1, r2, r3, r4, r5, r6, r7⟩ := hq.rs h.1
  obtain ⟨h1, h2, h3, h4, h5⟩ := h
  have hq2 : 20 < q ∧ q < 30 := by rcases hq with rfl | rfl <;> omega
  have e : ∀ c, c ≠ q + 2 → (zu M.1 (q + 2) k (nI s), M.2).1 c = M.1 c := fun c hc => zu_cell _ _ _ hc
  refine ⟨(zu M.1 (q + 2) k (nI s), M.2), ?_, ⟨h1.to rfl, h2.to (e 2 (by omega)) (e 58 (by omega)), ?_, ?_, h5⟩, ⟨fun c _ _ _ d => e c d, fun j _ _ => by rw [e 1 (by omega)], fun j _ => by rw [e q (by omega)], fun j hj => ⟨by rw [e (q + 1) (by omega)], ?_⟩, rfl⟩, e (q + 1) (by omega), zu_self _ _ _ _⟩
  · rw [f_X4_leadToHere, if_neg (nI_pos (by omega)), h4, if_neg (nI_ge hk (by omega)), r2, z_rd_eq, l2, if_pos (by rw [z_ixN (by omega)]; omega), zl_eq, nI_clamp (by omega)]
  · unfold CR
    rw [e 1 (by omega)]
    exact h3
  · rw [e q (by omega)]; exact h4
  · show zu M.1 (q + 2) k (nI s) (q + 2) j = _
    rw [zu_ne _ _ _ (by omega)]
theorem k_leadA {M : zM} {B : Nat → Nat} {q e p s k : Nat} {f : Int32} (hq : LO q) (h : KC M B q e p s f) (hs : s ≤ 240) (hk : k ≤ 240) : ∃ M', f_X4_leadToHere q (nI k) M = some ((), M') ∧ KC M' B q e p s f ∧ KF q k M M' := by
  by_cases hlt : k < s
  · obtain ⟨M', i1, i2, i3, _⟩ := k_lead hq h hs hlt
    exact ⟨M', i1, i2, i3⟩
  · refine ⟨M, ?_, h, KF.rf⟩
    rw [f_X4_leadToHere, if_neg (nI_pos (by omega)), h.2.2.2.1, if_pos (nI_le (by omega) (by omega))]
theorem KC.sg {M : zM} {B : Nat → Nat} {q e p s : Nat} (h : KC M B q e p s 0) (he : e ≤ 240) (hp : p ≤ e) : f_X10_sign 1 M = some (sg B e p, M) := c_sign h.1 h.2.1 h.2.2.1 (by omega) (by omega)
theorem KC.sgF {M : zM} {B : Nat → Nat} {q e p s : Nat} {f : Int32} (h : KC M B q e p s f) (hf : f ≠ 0) : f_X10_sign 1 M = some (-1, M) := c_signF h.2.2.1 hf
theorem KC.stp {M : zM} {B : Nat → Nat} {q e p s : Nat} {f : Int32} (h : KC M B q e p s f) : f_X10_step 1 M = some ((), tpM M (p + 1) f) := c_step h.2.2.1
theorem KC.t0 {M : zM} {B : Nat → Nat} {q e p s : Nat} {f : Int32} (h : KC M B q e p s f) : M.2.1 38 0 = some 1 := ST38 h.1
theorem KC.t1 {M : zM} {B : Nat → Nat} {q e p s : Nat} {f : Int32} (h : KC M B q e p s f) : M.2.1 38 1 = some q := h.2.2.2.2
theorem KC.fl {M : zM} {B : Nat → Nat} {q e p s c : Nat} (h : KC M B q e p s 0) : f_X10_failAt 1 (nI c) (M.1 1 3) M = some ((), tpM M p (flt c p)) := by
  rw [h.2.2.1.2.1]; exact c_faN h.2.2.1
theorem KC.flF {M : zM} {B : Nat → Nat} {q e p s : Nat} {x y f : Int32} (h : KC M B q e p s f) (hf : f ≠ 0) : f_X10_failAt 1 x y M = some ((), M) := c_failF h.2.2.1 hf
/-- the class opens -/
theorem k_opens {M : zM} {B : Nat → Nat} {q e p s o : Nat} (h : KC M B q e p s 0) (ho : o ≤ 6) : f_X5_opens 38 (nI o) M = if o < 6 then some (1, tpM M (p + 1) 0) else some (0, tpM M p (flt 5 p)) := by
  rw [f_X5_opens]
  by_cases h6 : o < 6
  · rw [if_pos (show nI o < (6 : Int32) from (nI_ltI (b := 6) (by omega) (by omega)).mpr h6), if_pos h6, h.t0, z_rd_eq, h.stp, z_call_eq]
  · rw [if_neg (show ¬ nI o < (6 : Int32) from nI_nlt (b := 6) (by omega) (by omega)), if_neg h6, h.t0, z_rd_eq, z_rd_eq, show (5 : Int32) = nI 5 from rfl, h.fl, z_call_eq]
theorem k_expect {M : zM} {B : Nat → Nat} {q e p s w : Nat} (h : KC M B q e p s 0) (he : e ≤ 240) (hp : p ≤ e) : f_X10_expect 1 (nI w) M = some ((), if sg B e p = nI w then tpM M (p + 1) 0 else tpM M p (flt 1 p)) := c_expect h.1 h.2.1 h.2.2.1 (by omega) (by omega)
theorem sg_cases {B : Nat → Nat} {e p : Nat} (x : Nat) (hx : x < 2 ^ 31) (h : sg B e p = nI x) : p < e := by
  unfold sg at h
  by_cases hp : p < e
  · exact hp
  · rw [if_neg hp] at h
    exact absurd h.symm (nI_m1 hx)
/-- letters -/
theorem letters (x : Int32) : (∃ i, i < 8 ∧ x = ltr i ∧ (∀ M, f_X5_isLetter x M = some (1, M)) ∧ (∀ M, f_X12_factOf x M = some (nI i, M))) ∨ ((∀ M, f_X5_isLetter x M = some (0, M)) ∧ (∀ M, f_X12_factOf x M = some (-1, M))) := by
  by_cases h1 : x = 97
  · subst h1; exact Or.inl ⟨6, by omega, rfl, fun M => rfl, fun M => rfl⟩
  by_cases h2 : x = 102
  · subst h2; exact Or.inl ⟨3, by omega, rfl, fun M => rfl, fun M => rfl⟩
  by_cases h3 : x = 103
  · subst h3; exact Or.inl ⟨5, by omega, rfl, fun M => rfl, fun M => rfl⟩
  by_cases h4 : x = 104
  · subst h4; exact Or.inl ⟨7, by omega, rfl, fun M => rfl, fun M => rfl⟩
  by_cases h5 : x = 112
  · subst h5; exact Or.inl ⟨2, by omega, rfl, fun M => rfl, fun M => rfl⟩
  by_cases h6 : x = 114
  · subst h6; exact Or.inl ⟨0, by omega, rfl, fun M => rfl, fun M => rfl⟩
  by_cases h7 : x = 115
  · subst h7; exact Or.inl ⟨1, by omega, rfl, fun M => rfl, fun M => rfl⟩
  by_cases h8 : x = 119
  · subst h8; exact Or.inl ⟨4, by omega, rfl, fun M => rfl, fun M => rfl⟩
  refine Or.inr ⟨fun M => ?_, fun M => ?_⟩
  · rw [f_X5_isLetter, if_neg h1, if_neg h2, if_neg h3, if_neg h4, if_neg h5, if_neg h6, if_neg h7, if_neg h8]
  · rw [f_X12_factOf, if_neg h1, if_neg h2, if_neg h3, if_neg h4, if_neg h5, if_neg h6, if_neg h7, if_neg h8]
/-- signs of sums: which, or none -/
theorem sums (x : Int32) : (∃ i, i < 5 ∧ x = ars i ∧ (∀ M, f_X12_sumSign x M = some (nI (2 + i), M)) ∧ (∀ M, f_X5_isTimes x M = some (if 2 ≤ i then 1 else 0, M))) ∨ ((∀ i, i < 5 → x ≠ ars i) ∧ (∀ M, f_X12_sumSign x M = some (-1, M)) ∧ (∀ M, f_X5_isTimes x M = some (0, M))) := by
  by_cases h1 : x = 43
  · subst h1; exact Or.inl ⟨0, by omega, rfl, fun M => rfl, fun M => rfl⟩
  by_cases h2 : x = 45
  · subst h2; exact Or.inl ⟨1, by omega, rfl, fun M => rfl, fun M => rfl⟩
  by_cases h3 : x = 42
  · subst h3; exact Or.inl ⟨2, by omega, rfl, fun M => rfl, fun M => rfl⟩
  by_cases h4 : x = 47
  · subst h4; exact Or.inl ⟨3, by omega, rfl, fun M => rfl, fun M => rfl⟩
  by_cases h5 : x = 37
  · subst h5; exact Or.inl ⟨4, by omega, rfl, fun M => rfl, fun M => rfl⟩
  refine Or.inr ⟨fun i hi => ?_, fun M => ?_, fun M => ?_⟩
  · rcases (show i = 0 ∨ i = 1 ∨ i = 2 ∨ i = 3 ∨ i = 4 by omega) with rfl | rfl | rfl | rfl | rfl
    · exact h1
    · exact h2
    · exact h3
    · exact h4
    · exact h5
  · rw [f_X12_sumSign, if_neg h1, if_neg h2, if_neg h3, if_neg h4, if_neg h5]
  · rw [f_X5_isTimes, if_neg h3, if_neg h4, if_neg h5]
