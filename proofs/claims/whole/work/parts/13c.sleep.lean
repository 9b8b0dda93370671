/-! sleep: the reference whole, and the promise -/
/-- what is answered out of the best -/
def slA (s : Nat × List Nat) (x : Int32) : Int64 := if x = 100 then lN s.1 else (nI (gt s.2 x.toNatClampNeg)).toInt64
theorem m_sum {n : Nat} {B fe : Nat → Nat} {p : List Nat} {M : zM} {x3 : Int32} {x5 : Int64} {k : Int64 → Int32 → zM → Option (Int64 × zM)} (hn : n ≤ 6) (hS : ST M) (hT : TB M B) (hW : WH M n (gt p)) (hp : ∀ j, j < n → gt p j < n) (h78 : ∀ j, j < n → M.1 78 j = nI (fe j)) (hfe : ∀ j, j < n → fe j ≤ 2400000) : ∀ m nf i, i + m = n → m < nf → f_X12_sleep_141 54 (nI n) x3 k nf x5 (lN (psm B fe (gt p) i)) (nI i) M = (if (lg_cmp x5 0) < 0 then (f_X12_sleep_194 54 (nI n) x3 k (lN (psm B fe (gt p) n)) M) else (if 0 ≤ (lg_cmp (lN (psm B fe (gt p) n)) x5) then (f_X12_sleep_227 54 (nI n) x3 k x5 M) else (f_X12_sleep_194 54 (nI n) x3 k (lN (psm B fe (gt p) n)) M))) := by
  intro m
  induction m with
  | zero =>
    intro nf i hi hnf
    obtain ⟨nf, rfl⟩ : ∃ e, nf = e + 1 := ⟨nf - 1, by omega⟩
    obtain rfl : i = n := by omega
    rw [f_X12_sleep_141, if_pos ((nI_leI (by omega) (by omega)).mpr (Nat.le_refl _))]
  | succ m ih =>
    intro nf i hi hnf
    obtain ⟨nf, rfl⟩ : ∃ e, nf = e + 1 := ⟨nf - 1, by omega⟩
    have b1 := hp i (by omega)
    have b2 := (hT (gt p i) (by omega)).1
    have b3 := hfe i (by omega)
    rw [f_X12_sleep_141, if_neg (nI_ge (by omega) (by omega)), (ST.a hS (o := 54) (k := 35) (a := 76) (by decide)), z_rd_eq, ln76, if_pos (by rw [z_ixN (by omega)]; omega), nI_clamp (by omega), hW i (by omega), m_octet hS hT (by omega), z_call_eq, (ST.a hS (o := 54) (k := 37) (a := 78) (by decide)), z_rd_eq, ln78, if_pos (by rw [z_ixN (by omega)]; omega), h78 i (by omega), zl_eq, zl_eq, nI_64 (by omega), nI_64 (by omega), lN_mu, lN_ad, nI_1]
    exact ih nf (i + 1) (by omega) (by omega)
theorem m_cpy {n : Nat} {p : List Nat} {x3 : Int32} {x5 : Int64} {k : Int64 → Int32 → zM → Option (Int64 × zM)} (hn : n ≤ 6) (hp : p.length = n) : ∀ m nf i (M : zM), i + m = n → m < nf → ST M → WH M n (gt p) → (∀ j, j < i → M.1 77 j = nI (gt p j)) → ∃ M', f_X12_sleep_201 54 (nI n) x3 k nf x5 (nI i) M = f_X12_sleep_227 54 (nI n) x3 k x5 M' ∧ Fr [77] M M' ∧ RW M' 77 p := by
  intro m
  induction m with
  | zero =>
    intro nf i M hi hnf hS hW h
    obtain ⟨nf, rfl⟩ : ∃ e, nf = e + 1 := ⟨nf - 1, by omega⟩
    obtain rfl : i = n := by omega
    exact ⟨M, by rw [f_X12_sleep_201, if_pos ((nI_leI (by omega) (by omega)).mpr (Nat.le_refl _))], Fr.rf, fun j hj => h j (by omega)⟩
  | succ m ih =>
    intro nf i M hi hnf hS hW h
    obtain ⟨nf, rfl⟩ : ∃ e, nf = e + 1 := ⟨nf - 1, by omega⟩
    have f1 : Fr [77] M (zu M.1 77 i (nI (gt p i)), M.2) := Fr.zu (by simp)
    obtain ⟨M', i1, i2, i3⟩ := ih nf (i + 1) (zu M.1 77 i (nI (gt p i)), M.2) (by omega) (by omega) (f1.st hS) (hW.to (f1.1 76 (by decide))) (fun j hj => by
      show zu M.1 77 i (nI (gt p i)) 77 j = _
      by_cases e : j = i
      · rw [e, zu_same]
      · rw [zu_ne _ _ _ e]; exact h j (by omega))
    refine ⟨M', ?_, f1.tr i2, i3⟩
    rw [f_X12_sleep_201, if_neg (nI_ge (by omega) (by omega)), (ST.a hS (o := 54) (k := 36) (a := 77) (by decide)), z_rd_eq, (ST.a hS (o := 54) (k := 35) (a := 76) (by decide)), z_rd_eq, ln76, if_pos (by rw [z_ixN (by omega)]; omega), ln77, if_pos (by rw [z_ixN (by omega)]; omega), zl_eq, nI_clamp (by omega), hW i (by omega), zl_eq, nI_1]
    exact i1
/-- one row looked at: the first (x5 below 0), or a later one -/
theorem m_pstep {n nf : Nat} {B fe : Nat → Nat} {p : List Nat} {M : zM} {x3 : Int32} {s : Nat × List Nat} {x5 : Int64} (hn : n ≤ 6) (hS : ST M) (hT : TB M B) (hW : WH M n (gt p)) (hpl : p.length = n) (hp : ∀ j, j < n → gt p j < n) (h78 : ∀ j, j < n → M.1 78 j = nI (fe j)) (hfe : ∀ j, j < n → fe j ≤ 2400000) (hs : (x5 = -1 ∧ psm B fe (gt p) n < s.1) ∨ (x5 = lN s.1 ∧ RW M 77 s.2)) (hs40 : s.1 ≤ 2 ^ 40) : ∃ M', f_X12_sleep_130 54 (nI n) x3 (nf + 1) x5 1 M = z_call (f_X12_nextWho 54 (nI n) M') (fun v M2 => f_X12_sleep_130 54 (nI n) x3 nf (lN (bst (fun q => psm B fe (gt q) n) s p).1) v M2) ∧ Fr [77] M M' ∧ RW M' 77 (bst (fun q => psm B fe (gt q) n) s p).2 := by
  have hc : psm B fe (gt p) n ≤ n * 612000000 := psm_le n (fun j hj => by have := (hT (gt p j) (by have := hp j hj; omega)).1; omega) hfe
  obtain ⟨M1, c1, c2, c3⟩ := m_cpy (x3 := x3) (x5 := lN (psm B fe (gt p) n)) (k := f_X12_sleep_130 54 (nI n) x3 nf) hn hpl n zF 0 M (by omega) (by unfold zF; omega) hS hW (fun j hj => by omega)
  have e0 : f_X12_sleep_130 54 (nI n) x3 (nf + 1) x5 1 M = (if (lg_cmp x5 0) < 0 then (f_X12_sleep_194 54 (nI n) x3 (f_X12_sleep_130 54 (nI n) x3 nf) (lN (psm B fe (gt p) n)) M) else (if 0 ≤ (lg_cmp (lN (psm B fe (gt p) n)) x5) then (f_X12_sleep_227 54 (nI n) x3 (f_X12_sleep_130 54 (nI n) x3 nf) x5 M) else (f_X12_sleep_194 54 (nI n) x3 (f_X12_sleep_130 54 (nI n) x3 nf) (lN (psm B fe (gt p) n)) M))) := by
    rw [f_X12_sleep_130, if_neg (by decide)]
    exact m_sum hn hS hT hW hp h78 hfe n zF 0 (by omega) (by unfold zF; omega)
  have e194 : f_X12_sleep_194 54 (nI n) x3 (f_X12_sleep_130 54 (nI n) x3 nf) (lN (psm B fe (gt p) n)) M = z_call (f_X12_nextWho 54 (nI n) M1) (fun v M2 => f_X12_sleep_130 54 (nI n) x3 nf (lN (psm B fe (gt p) n)) v M2) := by
    rw [f_X12_sleep_194]
    exact c1.trans rfl
  rw [e0]
  unfold bst
  rcases hs with ⟨rfl, h1⟩ | ⟨rfl, h1⟩
  · rw [if_pos (by decide), if_pos h1]
    exact ⟨M1, e194, c2, c3⟩
  · have hnn : ¬ lg_cmp (lN s.1) 0 < 0 := by
      intro h
      have h2 := (lg_cmp_lt _ _).mp h
      have h3 : lN 0 ≤ lN s.1 := (lN_leI (by omega) (by omega)).mpr (Nat.zero_le _)
      exact absurd h2 (Int64.not_lt.mpr h3)
    rw [if_neg hnn]
    by_cases q : psm B fe (gt p) n < s.1
    · rw [if_neg (fun z => by have := (lN_leI (by omega) (by omega)).mp ((lg_cmp_ge _ _).mp z); omega), if_pos q]
      exact ⟨M1, e194, c2, c3⟩
    · rw [if_pos ((lg_cmp_ge _ _).mpr ((lN_leI (by omega) (by omega)).mpr (by omega))), if_neg q]
      exact ⟨M, rfl, Fr.rf, h1⟩
theorem m_plp {n : Nat} {B fe : Nat → Nat} {x3 : Int32} (hn : n ≤ 6) (hn1 : 1 ≤ n) (hfe : ∀ j, j < n → fe j ≤ 2400000) (hx : x3 = 100 ∨ ∃ j, j < n ∧ x3 = nI j) : ∀ (r : List (List Nat)) (p : List Nat) (s : Nat × List Nat) (x5 : Int64) nf (M : zM), chn n p r = true → gdp n p = true → (∀ q ∈ r, gdp n q = true) → r.length + 1 < nf → ST M → TB M B → WH M n (gt p) → (∀ j, j < n → M.1 78 j = nI (fe j)) → ((x5 = -1 ∧ psm B fe (gt p) n < s.1) ∨ (x5 = lN s.1 ∧ RW M 77 s.2 ∧ s.2.length = n)) → s.1 ≤ 2 ^ 40 → ∃ M', f_X12_sleep_130 54 (nI n) x3 nf x5 1 M = some (slA ((p :: r).foldl (bst (fun q => psm B fe (gt q) n)) s) x3, M') ∧ Fr [76, 77] M M' := by
  intro r
  induction r with
  | nil =>
    intro p s x5 nf M hch hg hgr hnf hS hT hW h78 hs hs40
    obtain ⟨hpl, hp⟩ := gdp_t hg
    obtain ⟨nf, rfl⟩ : ∃ e, nf = e + 1 + 1 := ⟨nf - 2, by simp at hnf; omega⟩
    obtain ⟨M1, a1, a2, a3⟩ := m_pstep (nf := nf + 1) (x3 := x3) hn hS hT hW hpl hp h78 hfe (by
      rcases hs with h | ⟨h1, h2, _⟩
      · exact Or.inl h
      · exact Or.inr ⟨h1, h2⟩) hs40
    have hlen : (bst (fun q => psm B fe (gt q) n) s p).2.length = n := by
      unfold bst
      rcases hs with ⟨_, h⟩ | ⟨_, _, h⟩
      · rw [if_pos h]; exact hpl
      · by_cases q : psm B fe (gt p) n < s.1
        · rw [if_pos q]; exact hpl
        · rw [if_neg q]; exact h
    have hno : nxt n (gt p) = none := by simpa [chn] using hch
    rcases m_next hn hn1 (a2.st hS) (hW.to (a2.1 76 (by decide))) (fun k hk => by have := hp k hk; omega) with ⟨_, b1⟩ | ⟨l', M', b0, _⟩
    · refine ⟨M1, ?_, a2.mono (by decide)⟩
      rw [a1, b1, z_call_eq, f_X12_sleep_130, if_pos rfl]
      show _ = some (slA (bst (fun q => psm B fe (gt q) n) s p) x3, M1)
      unfold slA
      have s1 := a2.st hS
      rcases hx with rfl | ⟨j, hj, rfl⟩
      · rw [if_pos rfl, if_pos rfl]
      · rw [if_neg (fun h => by have := (nI_eq (b := 100) (by omega) (by omega)).mp h; omega), if_neg (fun h => by have := (nI_eq (b := 100) (by omega) (by omega)).mp h; omega), (ST.a s1 (o := 54) (k := 36) (a := 77) (by decide)), z_rd_eq, ln77, if_pos (by rw [z_ixN (by omega)]; omega), nI_clamp (by omega), a3 j (by omega)]
    · rw [hno] at b0
      cases b0
  | cons q r ih =>
    intro p s x5 nf M hch hg hgr hnf hS hT hW h78 hs hs40
    obtain ⟨hpl, hp⟩ := gdp_t hg
    obtain ⟨nf, rfl⟩ : ∃ e, nf = e + 1 := ⟨nf - 1, by omega⟩
    rw [List.length_cons] at hnf
    obtain ⟨M1, a1, a2, a3⟩ := m_pstep (nf := nf) (x3 := x3) hn hS hT hW hpl hp h78 hfe (by
      rcases hs with h | ⟨h1, h2, _⟩
      · exact Or.inl h
      · exact Or.inr ⟨h1, h2⟩) hs40
    have hlen : (bst (fun q => psm B fe (gt q) n) s p).2.length = n := by
      unfold bst
      rcases hs with ⟨_, h⟩ | ⟨_, _, h⟩
      · rw [if_pos h]; exact hpl
      · by_cases q : psm B fe (gt p) n < s.1
        · rw [if_pos q]; exact hpl
        · rw [if_neg q]; exact h
    simp only [chn, Bool.and_eq_true] at hch
    obtain ⟨hc1, hc2⟩ := hch
    rcases m_next hn hn1 (a2.st hS) (hW.to (a2.1 76 (by decide))) (fun k hk => by have := hp k hk; omega) with ⟨b0, _⟩ | ⟨l', M2, b0, b1, b2, b3⟩
    · rw [b0] at hc1
      exact absurd hc1 (by simp)
    · rw [b0] at hc1
      have hq := eqn_t n hc1
      have f12 : Fr [76, 77] M M2 := (a2.mono (by decide)).tr (b2.mono (by decide))
      obtain ⟨M3, d1, d2⟩ := ih q (bst (fun q => psm B fe (gt q) n) s p) _ nf M2 hc2 (hgr q (List.mem_cons_self ..)) (fun z hz => hgr z (List.mem_cons_of_mem _ hz)) (by omega) (f12.st hS) (hT.to (f12.1 2 (by decide)) (f12.1 58 (by decide))) (fun k hk => by rw [b3 k hk, hq k hk]) (by rw [f12.1 78 (by decide)]; exact h78) (Or.inr ⟨rfl, a3.to (b2.1 77 (by decide)), hlen⟩) (Nat.le_trans bst_le hs40)
      refine ⟨M3, ?_, f12.tr d2⟩
      rw [a1, b1, z_call_eq]
      exact d1
theorem m_beds {N : Nat → Nat} {R n : Nat} {x3 : Int32} (hR : NR N) (hRR : R < 2 ^ 24) (hn : n ≤ 6) (hpc : pc R 24 = n) : ∀ m nf r (M : zM), r + m = 24 → m < nf → ST M → MN M 55 N → (∀ k, k < pc R r → M.1 78 k = nI (fbf N R r k) ∧ M.1 76 k = nI k) → ∃ M', f_X12_sleep_69 54 (nI n) (nI R) x3 nf (nI (pc R r)) (nI r) M = f_X12_sleep_130 54 (nI n) x3 zF (-1) 1 M' ∧ Fr [76, 78] M M' ∧ (∀ k, k < n → M'.1 78 k = nI (fbf N R 24 k) ∧ M'.1 76 k = nI k) := by
  intro m
  induction m with
  | zero =>
    intro nf r M hr hnf hS hN h
    obtain ⟨nf, rfl⟩ : ∃ e, nf = e + 1 := ⟨nf - 1, by omega⟩
    obtain rfl : r = 24 := by omega
    exact ⟨M, by rw [f_X12_sleep_69, if_pos (by decide)], Fr.rf, fun k hk => h k (by omega)⟩
  | succ m ih =>
    intro nf r M hr hnf hS hN h
    obtain ⟨nf, rfl⟩ : ∃ e, nf = e + 1 := ⟨nf - 1, by omega⟩
    rw [f_X12_sleep_69, if_neg (show ¬ (24 : Int32) ≤ nI r from nI_ge (b := 24) (by omega) (by omega)), m_has hRR (by omega), z_call_eq]
    by_cases q : R.testBit r = true
    · have hlt : pc R r < n := by
        have h1 := pc_mono (R := R) m (r + 1)
        rw [show r + 1 + m = 24 by omega, hpc, pc_t q] at h1
        omega
      have f1 : Fr [78] M (zu M.1 78 (pc R r) (nI (g_sum N (120 + 24 * r) 24)), M.2) := Fr.zu (by simp)
      have s1 := f1.st hS
      have f2 : Fr [76] (zu M.1 78 (pc R r) (nI (g_sum N (120 + 24 * r) 24)), M.2) (zu (zu M.1 78 (pc R r) (nI (g_sum N (120 + 24 * r) 24))) 76 (pc R r) (nI (pc R r)), M.2) := Fr.zu (M := (zu M.1 78 (pc R r) (nI (g_sum N (120 + 24 * r) 24)), M.2)) (by simp)
      have f12 : Fr [76, 78] M (zu (zu M.1 78 (pc R r) (nI (g_sum N (120 + 24 * r) 24))) 76 (pc R r) (nI (pc R r)), M.2) := (f1.mono (by decide)).tr (f2.mono (by decide))
      obtain ⟨M', i1, i2, i3⟩ := ih nf (r + 1) (zu (zu M.1 78 (pc R r) (nI (g_sum N (120 + 24 * r) 24))) 76 (pc R r) (nI (pc R r)), M.2) (by omega) (by omega) (f12.st hS) (hN.to (f12.1 55 (by decide))) (fun k hk => by
        rw [pc_t q] at hk
        show zu (zu M.1 78 (pc R r) (nI (g_sum N (120 + 24 * r) 24))) 76 (pc R r) (nI (pc R r)) 78 k = _ ∧ zu (zu M.1 78 (pc R r) (nI (g_sum N (120 + 24 * r) 24))) 76 (pc R r) (nI (pc R r)) 76 k = _
        rw [zu_cell _ _ _ (show (78 : Nat) ≠ 76 by decide)]
        simp only [fbf]
        rw [if_pos q]
        by_cases e : k = pc R r
        · rw [e, zu_same, va_eq, zu_same]; exact ⟨rfl, rfl⟩
        · rw [zu_ne _ _ _ e, va_ne e, zu_ne _ _ _ e, zu_cell _ _ _ (show (76 : Nat) ≠ 78 by decide)]; exact h k (by omega))
      refine ⟨M', ?_, f12.tr i2, i3⟩
      rw [if_pos q, if_neg (by decide), (ST.a hS (o := 54) (k := 37) (a := 78) (by decide)), z_rd_eq, m_feltIn hS hN (by omega), z_call_eq, ln78, if_pos (by rw [z_ixN (by omega)]; omega), zl_eq, nI_clamp (by omega), (ST.a s1 (o := 54) (k := 35) (a := 76) (by decide)), z_rd_eq, ln76, if_pos (by rw [z_ixN (by omega)]; omega), zl_eq, zl_eq, f_X12_sleep_116, zl_eq, nI_1, nI_1, ← pc_t q]
      exact i1
    · rw [if_neg q, if_pos rfl, f_X12_sleep_116, zl_eq, nI_1, ← pc_f q]
      exact ih nf (r + 1) M (by omega) (by omega) hS hN (fun k hk => by
        rw [pc_f q] at hk
        simp only [fbf]
        rw [if_neg q]
        exact h k hk)
theorem m_sleep46 {M : zM} {N B : Nat → Nat} {R n s : Nat} {x3 : Int32} (hS : ST M) (hN : MN M 55 N) (hR : NR N) (hT : TB M B) (h4 : M.1 54 4 = nI s) (hs : s ≤ 260) (hns : n ≤ s) (hRR : R < 2 ^ 24) (hn : n ≤ 6) (hn1 : 1 ≤ n) (hpc : pc R 24 = n) (hx : x3 = 100 ∨ ∃ j, j < n ∧ x3 = nI j) : (bsC B (fbf N R 24) n).2.length = n ∧ ∃ M', f_X12_sleep_46 54 (nI n) (nI R) x3 M = some (slA (bsC B (fbf N R 24) n) x3, M') ∧ MX [54, 76, 77, 78] [4] M M' ∧ M'.1 54 4 = nI 0 := by
  have f0 : MX [54] [4] M (zu M.1 54 4 0, M.2) := MX.s54 (by simp) (by simp)
  obtain ⟨M1, a1, a2, a3⟩ := m_beds (x3 := x3) hR hRR hn hpc 24 zF 0 (zu M.1 54 4 0, M.2) (by omega) (by unfold zF; omega) (f0.1.st hS) (hN.to (f0.1.1 55 (by decide))) (fun k hk => by simp [pc] at hk)
  have s1 := a2.st (f0.1.st hS)
  have t1 : TB M1 B := hT.to (by rw [a2.1 2 (by decide), f0.1.1 2 (by decide)]) (by rw [a2.1 58 (by decide), f0.1.1 58 (by decide)])
  have hok := plm_all n (by omega) hn1
  unfold plOK at hok
  unfold bsC
  cases hpl : plm n n [] with
  | nil => rw [hpl] at hok; exact absurd hok (by simp)
  | cons p r =>
    rw [hpl] at hok
    simp only [Bool.and_eq_true, decide_eq_true_eq, List.all_eq_true] at hok
    obtain ⟨⟨⟨⟨g1, g2⟩, g3⟩, g4⟩, g5⟩ := hok
    obtain ⟨hpl2, hp⟩ := gdp_t g2
    have hid := eqn_t n g4
    have hc : psm B (fbf N R 24) (gt p) n ≤ n * 612000000 := psm_le n (fun j hj => by have := (hT (gt p j) (by have := hp j hj; omega)).1; omega) (fun k _ => fbf_le hR 24 (by omega) k)
    have hlen : (List.foldl (bst fun q => psm B (fbf N R 24) (gt q) n) (2 ^ 40, []) (p :: r)).2.length = n := by
      rw [List.foldl_cons]
      refine fold_len r _ (fun q hq => (gdp_t (g3 q hq)).1) ?_
      unfold bst
      rw [if_pos (by show psm B (fbf N R 24) (gt p) n < 2 ^ 40; omega)]
      exact hpl2
    obtain ⟨M2, b1, b2⟩ := m_plp (B := B) (fe := fbf N R 24) (x3 := x3) hn hn1 (fun k _ => fbf_le hR 24 (by omega) k) hx r p (2 ^ 40, []) (-1) zF M1 g5 g2 g3 (by unfold zF; omega) s1 t1 (fun k hk => by rw [(a3 k hk).2, ← hid k hk]) (fun k hk => (a3 k hk).1) (Or.inl ⟨rfl, by show _ < 2 ^ 40; omega⟩) (Nat.le_refl _)
    refine ⟨hlen, M2, ?_, ?_, ?_⟩
    · rw [f_X12_sleep_46, h4, if_pos ((nI_leI (by omega) (by omega)).mpr hns), zl_eq]
      exact a1.trans b1
    · have f2 : Fr [76, 77, 78] (zu M.1 54 4 0, M.2) M2 := (a2.mono (by decide)).tr (b2.mono (by decide))
      refine ⟨(f0.1.mono (by decide)).tr (f2.mono (by decide)), fun j hj => ?_⟩
      rw [f2.1 54 (by decide)]
      exact f0.2 j hj
    · rw [b2.1 54 (by decide), a2.1 54 (by decide)]
      exact zu_same M.1 54 4 _
