/-! sleep: the beds of both, the class whole, the reference's next row -/
def fbf (N : Nat → Nat) (R : Nat) : Nat → Nat → Nat
  | 0 => fun _ => 0
  | r + 1 => if R.testBit r then va_up (fbf N R r) (pc R r) (g_sum N (120 + 24 * r) 24) else fbf N R r
theorem felt_le {N : Nat → Nat} (hR : NR N) {r : Nat} (hr : r < 24) : g_sum N (120 + 24 * r) 24 ≤ 24 * 99999 := g_sum_le (fun k hk => by rw [show 120 + 24 * r + k = 120 + (24 * r + k) by omega]; exact hR.2.2.2.2.2.1 _ (by omega))
theorem fbf_le {N : Nat → Nat} {R : Nat} (hR : NR N) : ∀ r, r ≤ 24 → ∀ k, fbf N R r k ≤ 2400000 := by
  intro r
  induction r with
  | zero => intro _ k; exact Nat.zero_le _
  | succ r ih =>
    intro hr k
    have := felt_le hR (show r < 24 by omega)
    simp only [fbf]
    by_cases h : R.testBit r = true
    · rw [if_pos h]
      by_cases e : k = pc R r
      · rw [e, va_eq]; omega
      · rw [va_ne e]; exact ih (by omega) k
    · rw [if_neg h]; exact ih (by omega) k
theorem pc_t {R r : Nat} (h : R.testBit r = true) : pc R (r + 1) = pc R r + 1 := by
  simp only [pc]
  rw [Nat.testBit_eq_decide_div_mod_eq] at h
  simp at h
  omega
theorem pc_f {R r : Nat} (h : ¬ R.testBit r = true) : pc R (r + 1) = pc R r := by
  simp only [pc]
  rw [Nat.testBit_eq_decide_div_mod_eq] at h
  simp at h
  omega
theorem pc_mono {R : Nat} : ∀ m r, pc R r ≤ pc R (r + m) := by
  intro m
  induction m with
  | zero => intro r; exact Nat.le_refl _
  | succ m ih => intro r; rw [← Nat.add_assoc]; simp only [pc]; have := ih r; omega
def bsC (mi fe : Nat → Nat) (n : Nat) : Nat × List Nat := (plm n n []).foldl (bst (fun q => psm mi fe (gt q) n)) (2 ^ 40, [])
theorem c_sh47 {N mi : Nat → Nat} {R n : Nat} (hR : NR N) (hRR : R < 2 ^ 24) (hn : n ≤ 6) (hpc : pc R 24 = n) (hmi : ∀ w, w < n → mi w ≤ 255) : ∀ m nf r (M : zM), r + m = 24 → m < nf → ST M → CS M 3 N → M.1 47 4 = nI n → (∀ w, w < n → M.1 48 w = nI (mi w)) → (∀ k, k < pc R r → M.1 49 k = nI (fbf N R r k)) → ∃ M', f_X1_share_47 47 3 (nI R) nf (nI (pc R r)) (nI r) M = some ((), M') ∧ FrL [49, 50, 51] M M' ∧ M'.2.2 47 5 = lN (bsC mi (fbf N R 24) n).1 ∧ RW M' 51 (bsC mi (fbf N R 24) n).2 := by
  intro m
  induction m with
  | zero =>
    intro nf r M hr hnf hS hC h4 h48 h49
    obtain ⟨nf, rfl⟩ : ∃ e, nf = e + 1 := ⟨nf - 1, by omega⟩
    obtain rfl : r = 24 := by omega
    have hB : BDS (M.1, M.2.1, zu M.2.2 47 5 (lN (2 ^ 40))) n mi (fbf N R 24) := ⟨h4, h48, fun k hk => h49 k (by omega)⟩
    obtain ⟨M', a1, a2, a3, a4, a5⟩ := c_fill (fe := fbf N R 24) hn hmi (fun k _ => fbf_le hR 24 (by omega) k) n 10 [] 0 (2 ^ 40, []) (M.1, M.2.1, zu M.2.2 47 5 (lN (2 ^ 40))) (by simp) (by omega) (fun k hk => by simp at hk) (by omega) (fun w hw => by simp) (hS.to rfl) hB (fun k hk => by simp at hk) (zu_same M.2.2 47 5 _) (Nat.le_refl _) (fun k hk => by simp at hk)
    refine ⟨M', ?_, ⟨fun c hc => a2.1 c (by simp at hc ⊢; omega), a2.2⟩, a4, a5⟩
    rw [f_X1_share_47, if_pos (by decide), zl_eq, show f_X1_fill_r 47 0 0 0 (M.1, M.2.1, zu M.2.2 47 5 1099511627776) = some ((), M') from a1, z_call_eq]
  | succ m ih =>
    intro nf r M hr hnf hS hC h4 h48 h49
    obtain ⟨nf, rfl⟩ : ∃ e, nf = e + 1 := ⟨nf - 1, by omega⟩
    rw [f_X1_share_47, if_neg (show ¬ (24 : Int32) ≤ nI r from nI_ge (b := 24) (by omega) (by omega)), r_bit hRR (by omega)]
    by_cases q : R.testBit r = true
    · have hlt : pc R r < n := by
        have h1 := pc_mono (R := R) m (r + 1)
        rw [show r + 1 + m = 24 by omega, hpc, pc_t q] at h1
        omega
      have c8 : M.1 8 r = nI (g_sum N (120 + 24 * r) 24) := hC.2.2.2.2.1 r (by omega)
      have f1 : Fr [49] M (zu M.1 49 (pc R r) (nI (g_sum N (120 + 24 * r) 24)), M.2) := Fr.zu (by simp)
      obtain ⟨M', i1, i2, i3, i4⟩ := ih nf (r + 1) (zu M.1 49 (pc R r) (nI (g_sum N (120 + 24 * r) 24)), M.2) (by omega) (by omega) (f1.st hS) (hC.to (fun c h1 h2 => f1.1 c (by simp; omega))) (by rw [f1.1 47 (by decide)]; exact h4) (by rw [f1.1 48 (by decide)]; exact h48) (fun k hk => by
        rw [pc_t q] at hk
        show zu M.1 49 (pc R r) (nI (g_sum N (120 + 24 * r) 24)) 49 k = _
        simp only [fbf]
        rw [if_pos q]
        by_cases e : k = pc R r
        · rw [e, zu_same, va_eq]
        · rw [zu_ne _ _ _ e, va_ne e]; exact h49 k (by omega))
      refine ⟨M', ?_, (f1.L.mono (by decide)).tr i2, i3, i4⟩
      rw [if_pos q, if_pos rfl, h4, if_neg (nI_ge hlt (by omega)), (ST.a hS (o := 47) (k := 1) (a := 49) (by decide)), z_rd_eq, (ST.a hS (o := 3) (k := 4) (a := 8) (by decide)), z_rd_eq, show z_ln SH 8 = 24 from by decide, if_pos (by rw [z_ixN (by omega)]; omega), ln49, if_pos (by rw [z_ixN (by omega)]; omega), zl_eq, nI_clamp (by omega), nI_clamp (by omega), c8, zl_eq, f_X1_share_91, zl_eq, nI_1, nI_1, ← pc_t q]
      exact i1
    · rw [if_neg q, if_neg (by decide), f_X1_share_91, zl_eq, nI_1, ← pc_f q]
      exact ih nf (r + 1) M (by omega) (by omega) hS hC h4 h48 (fun k hk => by
        rw [pc_f q] at hk
        simp only [fbf]
        rw [if_neg q]
        exact h49 k hk)
theorem c_sh13 {N B : Nat → Nat} {R n : Nat} (hR : NR N) (hRR : R < 2 ^ 24) (hn : n ≤ 6) (hpc : pc R 24 = n) : ∀ m nf i (M : zM), i + m = n → m < nf → ST M → TB M B → M.1 1 2 = nI n → CS M 3 N → M.1 47 4 = nI n → (∀ w, w < i → M.1 48 w = nI (B w)) → ∃ M', f_X1_share_13 47 1 3 (nI R) nf (nI i) M = some ((), M') ∧ FrL [48, 49, 50, 51] M M' ∧ M'.2.2 47 5 = lN (bsC B (fbf N R 24) n).1 ∧ RW M' 51 (bsC B (fbf N R 24) n).2 := by
  intro m
  induction m with
  | zero =>
    intro nf i M hi hnf hS hT he hC h4 h48
    obtain ⟨nf, rfl⟩ : ∃ e, nf = e + 1 := ⟨nf - 1, by omega⟩
    obtain rfl : i = n := by omega
    obtain ⟨M', a1, a2, a3, a4⟩ := c_sh47 (mi := B) hR hRR hn hpc (fun w hw => by have := (hT w (by omega)).1; omega) 24 zF 0 M (by omega) (by unfold zF; omega) hS hC h4 h48 (fun k hk => by simp [pc] at hk)
    refine ⟨M', ?_, ⟨fun c hc => a2.1 c (by simp at hc ⊢; omega), a2.2⟩, a3, a4⟩
    rw [f_X1_share_13, h4, if_pos ((nI_leI (by omega) (by omega)).mpr (Nat.le_refl _))]
    exact a1
  | succ m ih =>
    intro nf i M hi hnf hS hT he hC h4 h48
    obtain ⟨nf, rfl⟩ : ∃ e, nf = e + 1 := ⟨nf - 1, by omega⟩
    have f1 : Fr [48] M (zu M.1 48 i (nI (B i)), M.2) := Fr.zu (by simp)
    obtain ⟨M', i1, i2, i3, i4⟩ := ih nf (i + 1) (zu M.1 48 i (nI (B i)), M.2) (by omega) (by omega) (f1.st hS) (hT.to (f1.1 2 (by decide)) (f1.1 58 (by decide))) (by rw [f1.1 1 (by decide)]; exact he) (hC.to (fun c h1 h2 => f1.1 c (by simp; omega))) (by rw [f1.1 47 (by decide)]; exact h4) (fun w hw => by
      show zu M.1 48 i (nI (B i)) 48 w = _
      by_cases e : w = i
      · rw [e, zu_same]
      · rw [zu_ne _ _ _ e]; exact h48 w (by omega))
    refine ⟨M', ?_, (f1.L.mono (by decide)).tr i2, i3, i4⟩
    rw [f_X1_share_13, h4, if_neg (nI_ge (by omega) (by omega)), (ST.a hS (o := 47) (k := 0) (a := 48) (by decide)), z_rd_eq, c_byteAt hS hT he (by omega) (by omega), z_call_eq, ln48, if_pos (by rw [z_ixN (by omega)]; omega), zl_eq, nI_clamp (by omega), zl_eq, nI_1]
    exact i1
theorem c_share {M : zM} {N B : Nat → Nat} {R n : Nat} (hS : ST M) (hC : CS M 3 N) (hR : NR N) (hT : TB M B) (he : M.1 1 2 = nI n) (hRR : R < 2 ^ 24) (hn : n ≤ 6) (hpc : pc R 24 = n) : ∃ M', f_X1_share 47 1 (nI n) 3 (nI R) M = some ((), M') ∧ FrL [47, 48, 49, 50, 51] M M' ∧ M'.2.2 47 5 = lN (bsC B (fbf N R 24) n).1 ∧ RW M' 51 (bsC B (fbf N R 24) n).2 := by
  have f1 : Fr [47] M (zu M.1 47 4 (nI n), M.2) := Fr.zu (by simp)
  obtain ⟨M', a1, a2, a3, a4⟩ := c_sh13 hR hRR hn hpc n zF 0 (zu M.1 47 4 (nI n), M.2) (by omega) (by unfold zF; omega) (f1.st hS) (hT.to (f1.1 2 (by decide)) (f1.1 58 (by decide))) (by rw [f1.1 1 (by decide)]; exact he) (hC.to (fun c h1 h2 => f1.1 c (by simp; omega))) (zu_same M.1 47 4 _) (fun w hw => by omega)
  refine ⟨M', ?_, (f1.L.mono (by decide)).tr (a2.mono (by decide)), a3, a4⟩
  rw [f_X1_share, zl_eq, show z_min (nI n) 6 = nI n from (nI_min (a := n) (b := 6) (by omega) (by omega)).trans (by rw [Nat.min_eq_left hn])]
  exact a1
-- the reference's next row
theorem ln76 : z_ln SH 76 = 6 := by decide
theorem ln77 : z_ln SH 77 = 6 := by decide
theorem ln78 : z_ln SH 78 = 6 := by decide
def WH (M : zM) (n : Nat) (l : Nat → Nat) : Prop := ∀ k, k < n → M.1 76 k = nI (l k)
theorem WH.to {M M' : zM} {n : Nat} {l : Nat → Nat} (h : WH M n l) (e : M'.1 76 = M.1 76) : WH M' n l := fun k hk => by rw [e]; exact h k hk
theorem m_chg {M : zM} {n a b : Nat} {l : Nat → Nat} (hS : ST M) (hn : n ≤ 6) (hW : WH M n l) (ha : a < n) (hb : b < n) : ∃ M', f_X12_changesWho 54 (nI a) (nI b) M = some ((), M') ∧ Fr [76] M M' ∧ WH M' n (swp l a b) := by
  have f1 : Fr [76] M (zu M.1 76 a (nI (l b)), M.2) := Fr.zu (by simp)
  have f2 : Fr [76] (zu M.1 76 a (nI (l b)), M.2) (zu (zu M.1 76 a (nI (l b))) 76 b (nI (l a)), M.2) := Fr.zu (M := (zu M.1 76 a (nI (l b)), M.2)) (by simp)
  have s1 := f1.st hS
  refine ⟨(zu (zu M.1 76 a (nI (l b))) 76 b (nI (l a)), M.2), ?_, f1.tr f2, fun k hk => ?_⟩
  · rw [f_X12_changesWho, (ST.a hS (o := 54) (k := 35) (a := 76) (by decide)), z_rd_eq, ln76, if_pos (by rw [z_ixN (by omega)]; omega), zl_eq, nI_clamp (by omega), hW a ha, z_rd_eq, z_rd_eq, ln76, if_pos (by rw [z_ixN (by omega)]; omega), if_pos (by rw [z_ixN (by omega)]; omega), zl_eq, nI_clamp (by omega), hW b hb, (ST.a s1 (o := 54) (k := 35) (a := 76) (by decide)), z_rd_eq, ln76, if_pos (by rw [z_ixN (by omega)]; omega), zl_eq]
  · show zu (zu M.1 76 a (nI (l b))) 76 b (nI (l a)) 76 k = _
    unfold swp
    by_cases e : k = b
    · rw [e, zu_same, va_eq]
    · rw [zu_ne _ _ _ e, va_ne e]
      by_cases e2 : k = a
      · rw [e2, zu_same, va_eq]
      · rw [zu_ne _ _ _ e2, va_ne e2]; exact hW k hk
theorem m_rev {n : Nat} (hn : n ≤ 6) : ∀ m nf a b (l : Nat → Nat) (M : zM), b ≤ a + 2 * m → b < n → a ≤ 10 → m < nf → ST M → WH M n l → ∃ M', f_X12_nextWho_80 54 nf (nI a) (nI b) M = some (1, M') ∧ Fr [76] M M' ∧ WH M' n (rvr m l a b) := by
  intro m
  induction m with
  | zero =>
    intro nf a b l M h1 h2 h3 h4 hS hW
    obtain ⟨nf, rfl⟩ : ∃ e, nf = e + 1 := ⟨nf - 1, by omega⟩
    exact ⟨M, by rw [f_X12_nextWho_80, if_pos ((nI_leI (by omega) (by omega)).mpr (by omega))], Fr.rf, hW⟩
  | succ m ih =>
    intro nf a b l M h1 h2 h3 h4 hS hW
    obtain ⟨nf, rfl⟩ : ∃ e, nf = e + 1 := ⟨nf - 1, by omega⟩
    rw [f_X12_nextWho_80]
    simp only [rvr]
    by_cases q : b ≤ a
    · rw [if_pos ((nI_leI (by omega) (by omega)).mpr q), if_pos q]
      exact ⟨M, rfl, Fr.rf, hW⟩
    · rw [if_neg (nI_ge (by omega) (by omega)), if_neg q]
      obtain ⟨M1, a1, a2, a3⟩ := m_chg hS hn hW (show a < n by omega) h2
      obtain ⟨M2, b1, b2, b3⟩ := ih nf (a + 1) (b - 1) _ M1 (by omega) (by omega) (by omega) (by omega) (a2.st hS) a3
      refine ⟨M2, ?_, a2.tr b2, b3⟩
      rw [a1, z_call_eq, zl_eq, zl_eq, nI_1, show nI b + -1 = nI (b - 1) from (Int32.sub_eq_add_neg _ _).symm.trans (nI_sub (b := 1) (by omega))]
      exact b1
theorem fj_ge {l : Nat → Nat} {i : Nat} : ∀ j, i ≤ j → i ≤ fj l (l i) j ∧ fj l (l i) j ≤ j := by
  intro j
  induction j with
  | zero => intro h; exact ⟨h, Nat.le_refl _⟩
  | succ j ih =>
    intro h
    simp only [fj]
    by_cases q : l i ≤ l (j + 1)
    · rw [if_pos q]; omega
    · rw [if_neg q]
      have : i ≠ j + 1 := by
        intro e
        rw [e] at q
        omega
      have := ih (by omega)
      omega
theorem pv_le {l : Nat → Nat} : ∀ i, pv l i ≤ i := by
  intro i
  induction i with
  | zero => exact Nat.le_refl _
  | succ i ih =>
    simp only [pv]
    by_cases q : l i ≤ l (i + 1)
    · rw [if_pos q]; exact Nat.le_refl _
    · rw [if_neg q]; omega
theorem m_nx42 {n i : Nat} {l : Nat → Nat} {M : zM} (hn : n ≤ 6) (hS : ST M) (hW : WH M n l) (hl : ∀ k, k < n → l k < 6) (hi : i < n) : ∀ j nf, i ≤ j → j < n → j < nf → f_X12_nextWho_42 54 (nI n) nf (nI i) (nI j) M = z_call (f_X12_changesWho 54 (nI i) (nI (fj l (l i) j)) M) fun _ M' => f_X12_nextWho_80 54 zF (nI (i + 1)) (nI (n - 1)) M' := by
  intro j
  induction j with
  | zero =>
    intro nf h1 h2 h3
    obtain ⟨nf, rfl⟩ : ∃ e, nf = e + 1 := ⟨nf - 1, by omega⟩
    obtain rfl : i = 0 := by omega
    rw [f_X12_nextWho_42, (ST.a hS (o := 54) (k := 35) (a := 76) (by decide)), z_rd_eq, ln76, if_pos (by rw [z_ixN (by omega)]; omega), z_rd_eq, ln76, if_pos (by rw [z_ixN (by omega)]; omega), nI_clamp (by omega), hW 0 h2, if_pos ((nI_leI (by have := hl 0 h2; omega) (by have := hl 0 h2; omega)).mpr (Nat.le_refl _))]
    simp only [zl_eq, nI_1, fj, show nI n - 1 = nI (n - 1) from nI_sub (b := 1) (by omega)]
  | succ j ih =>
    intro nf h1 h2 h3
    obtain ⟨nf, rfl⟩ : ∃ e, nf = e + 1 := ⟨nf - 1, by omega⟩
    have b1 := hl i hi
    have b2 := hl (j + 1) h2
    rw [f_X12_nextWho_42, (ST.a hS (o := 54) (k := 35) (a := 76) (by decide)), z_rd_eq, ln76, if_pos (by rw [z_ixN (by omega)]; omega), z_rd_eq, ln76, if_pos (by rw [z_ixN (by omega)]; omega), nI_clamp (by omega), nI_clamp (by omega), hW i hi, hW (j + 1) h2]
    simp only [fj]
    by_cases q : l i ≤ l (j + 1)
    · rw [if_pos ((nI_leI (by omega) (by omega)).mpr q), if_pos q]
      simp only [zl_eq, nI_1, show nI n - 1 = nI (n - 1) from nI_sub (b := 1) (by omega)]
    · rw [if_neg (nI_ge (by omega) (by omega)), if_neg q, zl_eq, show nI (j + 1) - 1 = nI j from nI_sub (b := 1) (by omega)]
      have : i ≠ j + 1 := by
        intro e
        rw [e] at q
        omega
      exact ih nf (by omega) (by omega) (by omega)
theorem m_nx4 {n : Nat} {l : Nat → Nat} {M : zM} (hn : n ≤ 6) (hS : ST M) (hW : WH M n l) (hl : ∀ k, k < n → l k < 6) : ∀ i nf, i < n → i < nf → f_X12_nextWho_4 54 (nI n) nf (nI i - 1) M = f_X12_nextWho_32 54 (nI n) (nI (pv l i) - 1) M := by
  intro i
  induction i with
  | zero =>
    intro nf h1 h2
    obtain ⟨nf, rfl⟩ : ∃ e, nf = e + 1 := ⟨nf - 1, by omega⟩
    rw [f_X12_nextWho_4, if_pos (by decide)]
    rfl
  | succ i ih =>
    intro nf h1 h2
    obtain ⟨nf, rfl⟩ : ∃ e, nf = e + 1 := ⟨nf - 1, by omega⟩
    have b1 := hl i (by omega)
    have b2 := hl (i + 1) h1
    have e1 : nI (i + 1) - 1 = nI i := nI_sub (b := 1) (by omega)
    rw [f_X12_nextWho_4, e1, if_neg (nI_pos (by omega)), (ST.a hS (o := 54) (k := 35) (a := 76) (by decide)), z_rd_eq, ln76, if_pos (by rw [z_ixN (by omega)]; omega), z_rd_eq, ln76, nI_1, if_pos (by rw [z_ixN (by omega)]; omega), nI_clamp (by omega), nI_clamp (by omega), hW i (by omega), hW (i + 1) h1]
    simp only [pv]
    by_cases q : l i ≤ l (i + 1)
    · rw [if_pos ((nI_leI (by omega) (by omega)).mpr q), if_pos q, e1]
    · rw [if_neg (nI_ge (by omega) (by omega)), if_neg q, zl_eq]
      exact ih nf (by omega) (by omega)
theorem n_m2 : ∀ n, n < 7 → 1 ≤ n → nI n - 2 = nI (n - 1) - 1 := by decide
theorem m_next {n : Nat} {l : Nat → Nat} {M : zM} (hn : n ≤ 6) (h1 : 1 ≤ n) (hS : ST M) (hW : WH M n l) (hl : ∀ k, k < n → l k < 6) : (nxt n l = none ∧ f_X12_nextWho 54 (nI n) M = some (0, M)) ∨ ∃ l' M', nxt n l = some l' ∧ f_X12_nextWho 54 (nI n) M = some (1, M') ∧ Fr [76] M M' ∧ WH M' n l' := by
  have hp := pv_le (l := l) (n - 1)
  have e0 : f_X12_nextWho 54 (nI n) M = f_X12_nextWho_32 54 (nI n) (nI (pv l (n - 1)) - 1) M := by
    rw [f_X12_nextWho, zl_eq, n_m2 n (by omega) h1]
    exact m_nx4 hn hS hW hl (n - 1) zF (by omega) (by unfold zF; omega)
  unfold nxt
  by_cases q : pv l (n - 1) = 0
  · refine Or.inl ⟨if_pos q, ?_⟩
    rw [e0, q, f_X12_nextWho_32, if_neg (by decide)]
  · refine Or.inr ?_
    obtain ⟨i, hi⟩ : ∃ i, pv l (n - 1) = i + 1 := ⟨pv l (n - 1) - 1, by omega⟩
    rw [if_neg q, hi]
    rw [hi] at e0 hp
    have hj := fj_ge (l := l) (i := i) (n - 1) (by omega)
    obtain ⟨M1, a1, a2, a3⟩ := m_chg (a := i) (b := fj l (l i) (n - 1)) hS hn hW (by omega) (by omega)
    obtain ⟨M2, b1, b2, b3⟩ := m_rev hn 6 zF (i + 1) (n - 1) _ M1 (by omega) (by omega) (by omega) (by unfold zF; omega) (a2.st hS) a3
    refine ⟨_, M2, rfl, ?_, a2.tr b2, b3⟩
    rw [e0, f_X12_nextWho_32, show nI (i + 1) - 1 = nI i from nI_sub (b := 1) (by omega), if_pos (nI_pos' (by omega)), zl_eq, show nI n - 1 = nI (n - 1) from nI_sub (b := 1) (by omega), m_nx42 hn hS hW hl (by omega) (n - 1) zF (by omega) (by omega) (by unfold zF; omega), a1, z_call_eq]
    exact b1
