/-! what the rules say: amounts and fog -/
def tn (x : Int32) : Nat := x.toNatClampNeg
theorem tn_nI {a : Nat} (h : a < 2 ^ 31) : tn (nI a) = a := nI_clamp h
def amt (hi v : Int32) : Int32 := if 0 ≤ v then (if v ≤ hi then v else hi) else 0
theorem zmm {hi v : Int32} (h : 0 ≤ hi) : z_max 0 (z_min hi v) = amt hi v := by
  have e0 : (0 : Int32).toInt = 0 := by decide
  unfold z_max z_min amt
  have h' := Int32.le_iff_toInt_le.mp h
  by_cases h1 : v < hi
  · have h1' := Int32.lt_iff_toInt_lt.mp h1
    rw [if_pos h1]
    by_cases h2 : 0 < v
    · have h2' := Int32.lt_iff_toInt_lt.mp h2
      rw [if_pos h2, if_pos (Int32.le_iff_toInt_le.mpr (by omega)), if_pos (Int32.le_iff_toInt_le.mpr (by omega))]
    · have h2' : ¬ (0 : Int32).toInt < v.toInt := fun h => h2 (Int32.lt_iff_toInt_lt.mpr h)
      rw [if_neg h2]
      by_cases h3 : 0 ≤ v
      · have h3' := Int32.le_iff_toInt_le.mp h3
        rw [if_pos h3, if_pos (Int32.le_iff_toInt_le.mpr (by omega))]
        exact Int32.toInt_inj.mp (by omega)
      · rw [if_neg h3]
  · have h1' : ¬ v.toInt < hi.toInt := fun h => h1 (Int32.lt_iff_toInt_lt.mpr h)
    rw [if_neg h1, if_pos (show (0 : Int32) ≤ v from Int32.le_iff_toInt_le.mpr (by omega))]
    have e2 : (if v ≤ hi then v else hi) = hi := by
      by_cases h3 : v ≤ hi
      · have h3' := Int32.le_iff_toInt_le.mp h3
        rw [if_pos h3]
        exact Int32.toInt_inj.mp (by omega)
      · rw [if_neg h3]
    rw [e2]
    by_cases h2 : 0 < hi
    · rw [if_pos h2]
    · have h2' : ¬ (0 : Int32).toInt < hi.toInt := fun h => h2 (Int32.lt_iff_toInt_lt.mpr h)
      rw [if_neg h2]
      exact Int32.toInt_inj.mp (by omega)
theorem amt_b {h : Nat} {v : Int32} (hh : h < 2 ^ 31) : ∃ a, a ≤ h ∧ amt (nI h) v = nI a := by
  unfold amt
  by_cases h1 : 0 ≤ v
  · rw [if_pos h1]
    by_cases h2 : v ≤ nI h
    · rw [if_pos h2]
      exact nI_of2 (nI_toInt hh) (Int32.not_lt.mpr h1) h2
    · rw [if_neg h2]; exact ⟨h, Nat.le_refl _, rfl⟩
  · rw [if_neg h1]; exact ⟨0, by omega, rfl⟩
def byL (L : Nat → Nat → Int32) (fc : Nat → Int32) (kd hi : Int32) : Nat → Nat → Int32
  | 0, _ => 0
  | m + 1, j => if L 1 j = kd then (if evR (L 0) fc (tn (L 3 j)) (tn (L 4 j)) = some 1 then amt hi ((evR (L 0) fc (tn (L 2 j)) (tn (L 3 j))).getD 0) else byL L fc kd hi m (j + 1)) else byL L fc kd hi m (j + 1)
def fgL (L : Nat → Nat → Int32) (fc : Nat → Int32) : Nat → Nat → Bool
  | 0, _ => false
  | m + 1, j => if L 1 j = 120 then (if evR (L 0) fc (tn (L 3 j)) (tn (L 4 j)) = some 1 then true else fgL L fc m (j + 1)) else fgL L fc m (j + 1)
theorem byL_b {L : Nat → Nat → Int32} {fc : Nat → Int32} {kd : Int32} {h : Nat} (hh : h < 2 ^ 31) : ∀ m j, ∃ a, a ≤ h ∧ byL L fc kd (nI h) m j = nI a := by
  intro m
  induction m with
  | zero => intro j; exact ⟨0, by omega, rfl⟩
  | succ m ih =>
    intro j
    rw [byL]
    by_cases h1 : L 1 j = kd
    · rw [if_pos h1]
      by_cases h2 : evR (L 0) fc (tn (L 3 j)) (tn (L 4 j)) = some 1
      · rw [if_pos h2]; exact amt_b hh
      · rw [if_neg h2]; exact ih (j + 1)
    · rw [if_neg h1]; exact ih (j + 1)
/-- the class's law in q is the law L -/
def LQ (M : zM) (q : Nat) (L : Nat → Nat → Int32) (nr : Nat) : Prop := ∃ nc, nc ≤ 240 ∧ nr ≤ 16 ∧ M.1 q 6 = nI nc ∧ M.1 q 7 = nI nr ∧ ∀ j, j < nr → (M.1 (q + 3) j = L 1 j ∧ M.1 (q + 4) j = L 2 j ∧ M.1 (q + 5) j = L 3 j ∧ M.1 (q + 6) j = L 4 j) ∧ RUf (M.1 (q + 1)) (M.1 (q + 2)) (L 0) nc (L 1 j) (L 2 j) (L 3 j) (L 4 j)
def LM (M : zM) (L : Nat → Nat → Int32) (nr : Nat) : Prop := (∀ i, i < 5 → M.1 (65 + i) = L i) ∧ M.1 54 13 = nI nr
/-- the rules of L hang together -/
def LU (L : Nat → Nat → Int32) (nr : Nat) : Prop := nr ≤ 16 ∧ ∃ sg va nc, nc ≤ 240 ∧ ∀ j, j < nr → RUf sg va (L 0) nc (L 1 j) (L 2 j) (L 3 j) (L 4 j)
theorem LQ.u {M : zM} {q nr : Nat} {L : Nat → Nat → Int32} (h : LQ M q L nr) : LU L nr := by
  obtain ⟨nc, h1, h2, h3, h4, h5⟩ := h
  exact ⟨h2, _, _, nc, h1, fun j hj => (h5 j hj).2⟩
theorem LQ.to {M M' : zM} {q nr : Nat} {L : Nat → Nat → Int32} (h : LQ M q L nr) (hF : FQ q M M') : LQ M' q L nr := by
  obtain ⟨nc, h1, h2, h3, h4, h5⟩ := h
  refine ⟨nc, h1, h2, (hF.2 6 (by decide)).trans h3, (hF.2 7 (by decide)).trans h4, ?_⟩
  rw [hF.c (c := q + 1) (by omega) (by omega), hF.c (c := q + 2) (by omega) (by omega), hF.c (c := q + 3) (by omega) (by omega), hF.c (c := q + 4) (by omega) (by omega), hF.c (c := q + 5) (by omega) (by omega), hF.c (c := q + 6) (by omega) (by omega)]
  exact h5
theorem EC.one {M : zM} {q : Nat} {o : Option Int32} (h : EC M q 100 o) : (o = some 1 → M.1 q 10 = 1 ∧ M.1 q 11 = 0) ∧ (¬ o = some 1 → M.1 q 10 = 0 ∨ ¬ M.1 q 11 = 0) := by
  constructor
  · intro e
    obtain ⟨a, b, c⟩ := h.2 1 e
    exact ⟨(c rfl).1, a⟩
  · intro e
    cases o with
    | none => exact Or.inr (by rw [h.1 rfl]; decide)
    | some v =>
      obtain ⟨a, b, c⟩ := h.2 v rfl
      obtain ⟨c1, c2⟩ := c rfl
      refine Or.inl ?_
      rcases c2 with rfl | rfl
      · exact c1
      · exact absurd rfl e
/-- the class asks for a test -/
theorem c_test {M : zM} {q o r p mu nr j : Nat} {L : Nat → Nat → Int32} {N : Nat → Nat} (hq : LO q) (hO : SO o) (hr : r < 24) (hp : p < 24) (hh : N 697 ≤ 99999) (hS : ST M) (hQ : LQ M q L nr) (hL : LK M q o N r p mu) (hj : j < nr) : ∃ M', f_X4_run q (L 3 j) (L 4 j) M = some ((), M') ∧ FQ q M M' ∧ EC M' q 100 (evR (L 0) (fcs N r p mu) (tn (L 3 j)) (tn (L 4 j))) := by
  obtain ⟨nc, h1, h2, h3, h4, h5⟩ := hQ
  obtain ⟨a, b, c, ea, eb, ec, k1, k2, k3, hE, T, t1, t2, t3⟩ := (h5 j hj).2
  rw [eb, ec, tn_nI (by omega), tn_nI (by omega)]
  obtain ⟨M', i1, i2, i3⟩ := c_run (cd := L 0) (T := T) (e := c) (a := b) hq hO hr hp hh h1 k3 k2 t1 t3 (Or.inr t2) hS h3 hL
  rw [t2] at i3
  exact ⟨M', i1, i2, i3⟩
/-- the class asks for an amount -/
theorem c_amo {M : zM} {q o r p mu nr j : Nat} {L : Nat → Nat → Int32} {N : Nat → Nat} (hq : LO q) (hO : SO o) (hr : r < 24) (hp : p < 24) (hh : N 697 ≤ 99999) (hS : ST M) (hQ : LQ M q L nr) (hL : LK M q o N r p mu) (hj : j < nr) (hk : L 1 j ≠ 120) : ∃ M', f_X4_run q (L 2 j) (L 3 j) M = some ((), M') ∧ FQ q M M' ∧ EC M' q 1 (evR (L 0) (fcs N r p mu) (tn (L 2 j)) (tn (L 3 j))) := by
  obtain ⟨nc, h1, h2, h3, h4, h5⟩ := hQ
  obtain ⟨a, b, c, ea, eb, ec, k1, k2, k3, hE, hC⟩ := (h5 j hj).2
  obtain ⟨T, t1, t2, t3⟩ := hE hk
  rw [ea, eb, tn_nI (by omega), tn_nI (by omega)]
  obtain ⟨M', i1, i2, i3⟩ := c_run (cd := L 0) (T := T) (e := b) (a := a) hq hO hr hp hh h1 (by omega) k1 t1 (fun k x y => Or.inl (t3 k x y)) (Or.inl t2) hS h3 hL
  rw [t2] at i3
  exact ⟨M', i1, i2, i3⟩
theorem c_amt_lp {q o r p mu nr : Nat} {L : Nat → Nat → Int32} {N : Nat → Nat} {kd hi : Int32} (hq : LO q) (hO : SO o) (hr : r < 24) (hp : p < 24) (hh : N 697 ≤ 99999) (hk : kd ≠ 120) (hhi : 0 ≤ hi) : ∀ m n j (M : zM), j + m = nr → m < n → ST M → LQ M q L nr → LK M q o N r p mu → ∃ M', f_X4_amountOf_2 q kd hi n (nI j) M = some (byL L (fcs N r p mu) kd hi m j, M') ∧ FQ q M M' := by
  obtain ⟨l1, l2, l3, l4, l5, l6, l7⟩ := hq.lns
  intro m
  induction m with
  | zero =>
    intro n j M hj hn hS hQ hL
    obtain ⟨n, rfl⟩ : ∃ x, n = x + 1 := ⟨n - 1, by omega⟩
    obtain ⟨nc, h1, h2, h3, h4, h5⟩ := hQ
    obtain rfl : j = nr := by omega
    exact ⟨M, by rw [f_X4_amountOf_2, h4, if_pos (nI_le (Nat.le_refl _) (by omega))]; rfl, FQ.rf⟩
  | succ m ih =>
    intro n j M hj hn hS hQ hL
    obtain ⟨n, rfl⟩ : ∃ x, n = x + 1 := ⟨n - 1, by omega⟩
    obtain ⟨r1, r2, r3, r4, r5, r6, r7⟩ := hq.rs hS
    obtain ⟨nc, h1, h2, h3, h4, h5⟩ := id hQ
    obtain ⟨⟨e1, e2, e3, e4⟩, hU⟩ := h5 j (by omega)
    rw [f_X4_amountOf_2, h4, if_neg (nI_ge (by omega) (by omega)), if_neg (show ¬ (16 : Int32) ≤ nI j from nI_ge (b := 16) (by omega) (by omega)), r3, z_rd_eq, l3, if_pos (by rw [z_ixN (by omega)]; omega), nI_clamp (by omega), e1, byL]
    by_cases hkd : L 1 j = kd
    · rw [if_pos hkd, if_pos hkd, r5, z_rd_eq, l5, if_pos (by rw [z_ixN (by omega)]; omega), r6, z_rd_eq, l6, if_pos (by rw [z_ixN (by omega)]; omega), e3, e4]
      obtain ⟨M1, i1, i2, i3⟩ := c_test hq hO hr hp hh hS hQ hL (show j < nr by omega)
      rw [i1, z_call_eq]
      have s1 := i2.1.st hS
      have q1 := hQ.to i2
      have k1 := hL.to hq hO i2
      by_cases z : evR (L 0) (fcs N r p mu) (tn (L 3 j)) (tn (L 4 j)) = some 1
      · obtain ⟨z1, z2⟩ := i3.one.1 z
        obtain ⟨M2, j1, j2, j3⟩ := c_amo hq hO hr hp hh s1 q1 k1 (show j < nr by omega) (by rw [hkd]; exact hk)
        obtain ⟨r1', r2', r3', r4', r5', r6', r7'⟩ := hq.rs s1
        obtain ⟨r1'', r2'', r3'', r4'', r5'', r6'', r7''⟩ := hq.rs (j2.1.st s1)
        rw [z1, if_neg (by decide), z2, if_pos rfl, if_pos z, r4', z_rd_eq, l4, if_pos (by rw [z_ixN (by omega)]; omega), r5', z_rd_eq, l5, if_pos (by rw [z_ixN (by omega)]; omega), i2.c (c := q + 4) (by omega) (by omega), i2.c (c := q + 5) (by omega) (by omega), e2, e3, j1, z_call_eq]
        refine ⟨M2, ?_, i2.tr j2⟩
        rcases hv : evR (L 0) (fcs N r p mu) (tn (L 2 j)) (tn (L 3 j)) with _ | v
        · rw [hv] at j3
          rw [j3.1 rfl, if_neg (by decide)]
          show some ((0 : Int32), M2) = some (amt hi 0, M2)
          rw [← zmm hhi]
          have : z_max 0 (z_min hi 0) = 0 := by
            unfold z_max z_min
            by_cases y : 0 < hi
            · rw [if_pos y]; rfl
            · rw [if_neg y, if_neg y]
          rw [this]
        · rw [hv] at j3
          obtain ⟨v1, v2, v3⟩ := j3.2 v rfl
          rw [v1, if_pos rfl, r7'', z_rd_eq, l7, if_pos (by decide), c0, v2 rfl, zmm hhi]
          rfl
      · obtain ⟨M', u1, u2⟩ := ih n (j + 1) M1 (by omega) (by omega) s1 q1 k1
        refine ⟨M', ?_, i2.tr u2⟩
        rw [if_neg z, ← u1]
        rcases i3.one.2 z with y | y
        · rw [y, if_pos rfl, f_X4_amountOf_98, zl_eq, nI_1]
        · by_cases x : M1.1 q 10 = 0
          · rw [if_pos x, f_X4_amountOf_98, zl_eq, nI_1]
          · rw [if_neg x, if_neg y, f_X4_amountOf_98, zl_eq, nI_1]
    · rw [if_neg hkd, if_neg hkd, f_X4_amountOf_98, zl_eq, nI_1]
      exact ih n (j + 1) M (by omega) (by omega) hS hQ hL
theorem c_fog_lp {q o r p mu nr : Nat} {L : Nat → Nat → Int32} {N : Nat → Nat} (hq : LO q) (hO : SO o) (hr : r < 24) (hp : p < 24) (hh : N 697 ≤ 99999) : ∀ m n j (M : zM), j + m = nr → m < n → ST M → LQ M q L nr → LK M q o N r p mu → ∃ M', f_X4_isFog_2 q n (nI j) M = some (if fgL L (fcs N r p mu) m j then 1 else 0, M') ∧ FQ q M M' := by
  obtain ⟨l1, l2, l3, l4, l5, l6, l7⟩ := hq.lns
  intro m
  induction m with
  | zero =>
    intro n j M hj hn hS hQ hL
    obtain ⟨n, rfl⟩ : ∃ x, n = x + 1 := ⟨n - 1, by omega⟩
    obtain ⟨nc, h1, h2, h3, h4, h5⟩ := hQ
    obtain rfl : j = nr := by omega
    exact ⟨M, by rw [f_X4_isFog_2, h4, if_pos (nI_le (Nat.le_refl _) (by omega))]; rfl, FQ.rf⟩
  | succ m ih =>
    intro n j M hj hn hS hQ hL
    obtain ⟨n, rfl⟩ : ∃ x, n = x + 1 := ⟨n - 1, by omega⟩
    obtain ⟨r1, r2, r3, r4, r5, r6, r7⟩ := hq.rs hS
    obtain ⟨nc, h1, h2, h3, h4, h5⟩ := id hQ
    obtain ⟨⟨e1, e2, e3, e4⟩, hU⟩ := h5 j (by omega)
    rw [f_X4_isFog_2, h4, if_neg (nI_ge (by omega) (by omega)), if_neg (show ¬ (16 : Int32) ≤ nI j from nI_ge (b := 16) (by omega) (by omega)), r3, z_rd_eq, l3, if_pos (by rw [z_ixN (by omega)]; omega), nI_clamp (by omega), e1, fgL]
    by_cases hkd : L 1 j = 120
    · rw [if_pos hkd, if_pos hkd, r5, z_rd_eq, l5, if_pos (by rw [z_ixN (by omega)]; omega), r6, z_rd_eq, l6, if_pos (by rw [z_ixN (by omega)]; omega), e3, e4]
      obtain ⟨M1, i1, i2, i3⟩ := c_test hq hO hr hp hh hS hQ hL (show j < nr by omega)
      rw [i1, z_call_eq]
      by_cases z : evR (L 0) (fcs N r p mu) (tn (L 3 j)) (tn (L 4 j)) = some 1
      · obtain ⟨z1, z2⟩ := i3.one.1 z
        rw [z1, if_neg (by decide), z2, if_pos rfl, if_pos z]
        exact ⟨M1, rfl, i2⟩
      · obtain ⟨M', u1, u2⟩ := ih n (j + 1) M1 (by omega) (by omega) (i2.1.st hS) (hQ.to i2) (hL.to hq hO i2)
        refine ⟨M', ?_, i2.tr u2⟩
        rw [if_neg z, ← u1]
        rcases i3.one.2 z with y | y
        · rw [y, if_pos rfl, f_X4_isFog_59, zl_eq, nI_1]
        · by_cases x : M1.1 q 10 = 0
          · rw [if_pos x, f_X4_isFog_59, zl_eq, nI_1]
          · rw [if_neg x, if_neg y, f_X4_isFog_59, zl_eq, nI_1]
    · rw [if_neg hkd, if_neg hkd, f_X4_isFog_59, zl_eq, nI_1]
      exact ih n (j + 1) M (by omega) (by omega) hS hQ hL
theorem c_amountOf {M : zM} {q o r p mu nr : Nat} {L : Nat → Nat → Int32} {N : Nat → Nat} {kd hi : Int32} (hq : LO q) (hO : SO o) (hr : r < 24) (hp : p < 24) (hh : N 697 ≤ 99999) (hk : kd ≠ 120) (hhi : 0 ≤ hi) (hS : ST M) (hQ : LQ M q L nr) (hL : LK M q o N r p mu) : ∃ M', f_X4_amountOf q kd hi M = some (byL L (fcs N r p mu) kd hi nr 0, M') ∧ FQ q M M' := c_amt_lp hq hO hr hp hh hk hhi nr zF 0 M (by omega) (by have := hQ.u.1; unfold zF; omega) hS hQ hL
theorem c_isFog {M : zM} {q o r p mu nr : Nat} {L : Nat → Nat → Int32} {N : Nat → Nat} (hq : LO q) (hO : SO o) (hr : r < 24) (hp : p < 24) (hh : N 697 ≤ 99999) (hS : ST M) (hQ : LQ M q L nr) (hL : LK M q o N r p mu) : ∃ M', f_X4_isFog q M = some (if fgL L (fcs N r p mu) nr 0 then 1 else 0, M') ∧ FQ q M M' := c_fog_lp hq hO hr hp hh nr zF 0 M (by omega) (by have := hQ.u.1; unfold zF; omega) hS hQ hL
