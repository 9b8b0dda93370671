/-! the world's fixed references, the ghost N (the 699 numbers of the reference), and what it says of class and reference -/
def zRT : List (Nat × Nat × Nat) := [(0,0,1),(0,1,3),(0,2,9),(0,3,15),(0,4,37),(0,5,38),(0,6,39),(0,7,40),(0,8,43),(0,9,47),(0,10,52),(1,0,2),
  (3,0,4),(3,1,5),(3,2,6),(3,3,7),(3,4,8),(9,0,10),(9,1,11),(9,2,12),(9,3,13),(9,4,14),(15,0,16),(15,1,17),(15,2,18),(15,3,19),(15,4,20),
  (21,0,22),(21,1,23),(21,2,24),(21,3,25),(21,4,26),(21,5,27),(21,8,28),(29,0,30),(29,1,31),(29,2,32),(29,3,33),(29,4,34),(29,5,35),(29,8,36),
  (38,0,1),(39,0,1),(40,0,41),(40,1,42),(43,0,44),(43,1,45),(43,2,46),(47,0,48),(47,1,49),(47,2,50),(47,3,51),(52,0,53),
  (54,0,55),(54,1,56),(54,2,57),(54,3,58),(54,14,59),(54,15,60),(54,16,61),(54,17,62),(54,18,63),(54,19,64),(54,20,65),(54,21,66),(54,22,67),(54,23,68),(54,24,69),(54,25,70),(54,26,71),(54,31,72),(54,32,73),(54,33,74),(54,34,75),(54,35,76),(54,36,77),(54,37,78),(54,38,79),(54,39,80)]
def ST (M : zM) : Prop := ∀ q ∈ zRT, M.2.1 q.1 q.2.1 = some q.2.2
theorem ST.a {M : zM} (h : ST M) {o k a : Nat} (hm : (o, k, a) ∈ zRT) : M.2.1 o k = some a := h _ hm
theorem ST.to {M M' : zM} (h : ST M) (he : M'.2.1 = M.2.1) : ST M' := fun q hq => by rw [he]; exact h q hq
theorem ln2 : z_ln SH 2 = 260 := by decide
theorem ln55 : z_ln SH 55 = 699 := by decide
theorem ln56 : z_ln SH 56 = 699 := by decide
theorem ln57 : z_ln SH 57 = 699 := by decide
theorem ln58 : z_ln SH 58 = 260 := by decide
/-- a shaft's cell -/
def SO (o : Nat) : Prop := o = 3 ∨ o = 9 ∨ o = 15
theorem SO.lns {o : Nat} (h : SO o) : z_ln SH (o + 1) = 24 ∧ z_ln SH (o + 2) = 24 ∧ z_ln SH (o + 3) = 24 ∧ z_ln SH (o + 4) = 576 ∧ z_ln SH (o + 5) = 24 := by
  rcases h with rfl | rfl | rfl <;> exact ⟨rfl, rfl, rfl, rfl, rfl⟩
theorem SO.rs {o : Nat} (h : SO o) {M : zM} (hS : ST M) : M.2.1 o 0 = some (o + 1) ∧ M.2.1 o 1 = some (o + 2) ∧ M.2.1 o 2 = some (o + 3) ∧ M.2.1 o 3 = some (o + 4) ∧ M.2.1 o 4 = some (o + 5) := by
  rcases h with rfl | rfl | rfl <;> exact ⟨hS.a (by decide), hS.a (by decide), hS.a (by decide), hS.a (by decide), hS.a (by decide)⟩
/-- the ranges of the ghost -/
def NR (N : Nat → Nat) : Prop := (∀ r, r < 24 → N r ≤ 1) ∧ (∀ r, r < 24 → N (24 + r) ≤ 9999) ∧ (∀ r, r < 24 → N (48 + r) ≤ 1) ∧ (∀ r, r < 24 → N (72 + r) ≤ 2) ∧ (∀ r, r < 24 → N (96 + r) ≤ 99999) ∧ (∀ k, k < 576 → N (120 + k) ≤ 99999) ∧ N 696 ≤ 999999 ∧ N 697 ≤ 99999 ∧ N 698 ≤ 65535 ∧ (∀ r, r < 24 → N r = 0 → N (24 + r) = 0)
def MN (M : zM) (a : Nat) (N : Nat → Nat) : Prop := ∀ k, k < 699 → M.1 a k = nI (N k)
def CS (M : zM) (o : Nat) (N : Nat → Nat) : Prop := (∀ r, r < 24 → M.1 (o + 1) r = nI (N (24 + r))) ∧ (∀ r, r < 24 → M.1 (o + 2) r = nI (N (72 + r))) ∧ (∀ r, r < 24 → M.1 (o + 3) r = nI (N (96 + r))) ∧ (∀ k, k < 576 → M.1 (o + 4) k = nI (N (120 + k))) ∧ (∀ r, r < 24 → M.1 (o + 5) r = nI (g_sum N (120 + 24 * r) 24)) ∧ M.1 o 5 = nI (g_bits N 0 24) ∧ M.1 o 6 = nI (g_bits N 48 24) ∧ M.1 o 7 = nI (N 696) ∧ M.1 o 8 = nI (N 697) ∧ M.1 o 9 = nI (N 698)
/-- cells outside a list stay -/
def Fr (l : List Nat) (M M' : zM) : Prop := (∀ c, c ∉ l → M'.1 c = M.1 c) ∧ M'.2 = M.2
theorem Fr.rf {l : List Nat} {M : zM} : Fr l M M := ⟨fun _ _ => rfl, rfl⟩
theorem Fr.tr {l : List Nat} {M M1 M2 : zM} (h1 : Fr l M M1) (h2 : Fr l M1 M2) : Fr l M M2 := ⟨fun c hc => (h2.1 c hc).trans (h1.1 c hc), h2.2.trans h1.2⟩
theorem Fr.zu {l : List Nat} {M : zM} {c j : Nat} {v : Int32} (h : c ∈ l) : Fr l M (zu M.1 c j v, M.2) := ⟨fun d hd => zu_cell _ _ _ (fun e => hd (e ▸ h)), rfl⟩
theorem Fr.mono {l l' : List Nat} {M M' : zM} (h : Fr l M M') (hl : ∀ c, c ∈ l → c ∈ l') : Fr l' M M' := ⟨fun c hc => h.1 c (fun e => hc (hl c e)), h.2⟩
theorem Fr.st {l : List Nat} {M M' : zM} (h : Fr l M M') (hS : ST M) : ST M' := hS.to (by rw [h.2])
-- the reference's reads
theorem m_sumOf_lp {M : zM} {N : Nat → Nat} (hS : ST M) (hN : MN M 55 N) {b : Nat} (hb : b + 24 ≤ 699) : ∀ k n i, i + k = 24 → k < n → f_X12_sumOf_4 54 (nI b) n (nI (g_sum N b i)) (nI i) M = some (nI (g_sum N b 24), M) := by
  intro k
  induction k with
  | zero =>
    intro n i hi hn
    obtain ⟨n, rfl⟩ : ∃ m, n = m + 1 := ⟨n - 1, by omega⟩
    obtain rfl : i = 24 := by omega
    rw [f_X12_sumOf_4]
    (simp (disch := omega) only [z_rd_eq, z_call_eq, zl_eq, lit, nI_add, nI_mul, nI_div, nI_sub, nI_clamp, nI_leI, nI_ltI, nI_eq, z_ixN, ifTlt, ifFlt, ifTle, ifFle, ifTeq, ifFeq, if_true, if_false]; try simp (disch := omega) only [ifTlt, ifFlt, ifTle, ifFle, ifTeq, ifFeq, if_true, if_false, z_call_eq, z_rd_eq, zl_eq])
  | succ k ih =>
    intro n i hi hn
    obtain ⟨n, rfl⟩ : ∃ m, n = m + 1 := ⟨n - 1, by omega⟩
    rw [f_X12_sumOf_4]
    (simp (disch := omega) only [z_rd_eq, z_call_eq, zl_eq, lit, nI_add, nI_mul, nI_div, nI_sub, nI_clamp, nI_leI, nI_ltI, nI_eq, z_ixN, ifTlt, ifFlt, ifTle, ifFle, ifTeq, ifFeq, if_true, if_false, (ST.a hS (o := 54) (k := 0) (a := 55) (by decide)), ln55]; try simp (disch := omega) only [ifTlt, ifFlt, ifTle, ifFle, ifTeq, ifFeq, if_true, if_false, z_call_eq, z_rd_eq, zl_eq])
    rw [hN (b + i) (by omega), nI_add]
    exact ih n (i + 1) (by omega) (by omega)
theorem m_sumOf {M : zM} {N : Nat → Nat} (hS : ST M) (hN : MN M 55 N) {b : Nat} (hb : b + 24 ≤ 699) : f_X12_sumOf 54 (nI b) M = some (nI (g_sum N b 24), M) := m_sumOf_lp hS hN hb 24 zF 0 (by omega) (by decide)
theorem m_feltIn_lp {M : zM} {N : Nat → Nat} (hS : ST M) (hN : MN M 55 N) {r : Nat} (hr : r < 24) : ∀ k n i, i + k = 24 → k < n → f_X12_feltIn_4 54 (nI r) n (nI (g_sum N (120 + 24 * r) i)) (nI i) M = some (nI (g_sum N (120 + 24 * r) 24), M) := by
  intro k
  induction k with
  | zero =>
    intro n i hi hn
    obtain ⟨n, rfl⟩ : ∃ m, n = m + 1 := ⟨n - 1, by omega⟩
    obtain rfl : i = 24 := by omega
    rw [f_X12_feltIn_4]
    (simp (disch := omega) only [z_rd_eq, z_call_eq, zl_eq, lit, nI_add, nI_mul, nI_div, nI_sub, nI_clamp, nI_leI, nI_ltI, nI_eq, z_ixN, ifTlt, ifFlt, ifTle, ifFle, ifTeq, ifFeq, if_true, if_false]; try simp (disch := omega) only [ifTlt, ifFlt, ifTle, ifFle, ifTeq, ifFeq, if_true, if_false, z_call_eq, z_rd_eq, zl_eq])
  | succ k ih =>
    intro n i hi hn
    obtain ⟨n, rfl⟩ : ∃ m, n = m + 1 := ⟨n - 1, by omega⟩
    rw [f_X12_feltIn_4]
    (simp (disch := omega) only [z_rd_eq, z_call_eq, zl_eq, lit, nI_add, nI_mul, nI_div, nI_sub, nI_clamp, nI_leI, nI_ltI, nI_eq, z_ixN, ifTlt, ifFlt, ifTle, ifFle, ifTeq, ifFeq, if_true, if_false, (ST.a hS (o := 54) (k := 0) (a := 55) (by decide)), ln55, f_X12_felt]; try simp (disch := omega) only [ifTlt, ifFlt, ifTle, ifFle, ifTeq, ifFeq, if_true, if_false, z_call_eq, z_rd_eq, zl_eq])
    rw [hN (120 + 24 * r + i) (by omega), nI_add]
    exact ih n (i + 1) (by omega) (by omega)
theorem m_feltIn {M : zM} {N : Nat → Nat} (hS : ST M) (hN : MN M 55 N) {r : Nat} (hr : r < 24) : f_X12_feltIn 54 (nI r) M = some (nI (g_sum N (120 + 24 * r) 24), M) := m_feltIn_lp hS hN hr 24 zF 0 (by omega) (by decide)
theorem or_add {a n x : Nat} (h : a < 2 ^ n) (hx : x ≤ 1) : a ||| x * 2 ^ n = a + x * 2 ^ n := by
  rcases (show x = 0 ∨ x = 1 by omega) with rfl | rfl
  · simp
  · have h1 := Nat.two_pow_add_eq_or_of_lt h 1
    rw [Nat.mul_one] at h1
    rw [Nat.one_mul, Nat.or_comm, ← h1, Nat.add_comm]
theorem nI_shl {x j : Nat} (hx : x ≤ 1) (hj : j < 31) : nI x <<< (nI j &&& 31) = nI (x * 2 ^ j) := by
  rcases (show x = 0 ∨ x = 1 by omega) with rfl | rfl
  · rw [Nat.zero_mul]
    exact (show ∀ j, j < 31 → nI 0 <<< (nI j &&& 31) = nI 0 by decide) j hj
  · rw [Nat.one_mul]
    exact nI_bit j hj
theorem m_setOf_lp {M : zM} {N : Nat → Nat} (hS : ST M) (hN : MN M 55 N) {b : Nat} (hb : b + 24 ≤ 699) (h1 : ∀ r, r < 24 → N (b + r) ≤ 1) : ∀ k n i, i + k = 24 → k < n → f_X12_setOf_4 54 (nI b) n (nI (g_bits N b i)) (nI i) M = some (nI (g_bits N b 24), M) := by
  intro k
  induction k with
  | zero =>
    intro n i hi hn
    obtain ⟨n, rfl⟩ : ∃ m, n = m + 1 := ⟨n - 1, by omega⟩
    obtain rfl : i = 24 := by omega
    rw [f_X12_setOf_4]
    (simp (disch := omega) only [z_rd_eq, z_call_eq, zl_eq, lit, nI_add, nI_mul, nI_div, nI_sub, nI_clamp, nI_leI, nI_ltI, nI_eq, z_ixN, ifTlt, ifFlt, ifTle, ifFle, ifTeq, ifFeq, if_true, if_false]; try simp (disch := omega) only [ifTlt, ifFlt, ifTle, ifFle, ifTeq, ifFeq, if_true, if_false, z_call_eq, z_rd_eq, zl_eq])
  | succ k ih =>
    intro n i hi hn
    obtain ⟨n, rfl⟩ : ∃ m, n = m + 1 := ⟨n - 1, by omega⟩
    rw [f_X12_setOf_4]
    (simp (disch := omega) only [z_rd_eq, z_call_eq, zl_eq, lit, nI_add, nI_mul, nI_div, nI_sub, nI_clamp, nI_leI, nI_ltI, nI_eq, z_ixN, ifTlt, ifFlt, ifTle, ifFle, ifTeq, ifFeq, if_true, if_false, (ST.a hS (o := 54) (k := 0) (a := 55) (by decide)), ln55]; try simp (disch := omega) only [ifTlt, ifFlt, ifTle, ifFle, ifTeq, ifFeq, if_true, if_false, z_call_eq, z_rd_eq, zl_eq])
    rw [hN (b + i) (by omega), show nI 31 = (31 : Int32) from rfl, nI_shl (h1 i (by omega)) (by omega), nI_or, or_add (g_bits_lt (fun k hk => h1 k (by omega))) (h1 i (by omega))]
    exact ih n (i + 1) (by omega) (by omega)
theorem m_setOf {M : zM} {N : Nat → Nat} (hS : ST M) (hN : MN M 55 N) {b : Nat} (hb : b + 24 ≤ 699) (h1 : ∀ r, r < 24 → N (b + r) ≤ 1) : f_X12_setOf 54 (nI b) M = some (nI (g_bits N b 24), M) := m_setOf_lp hS hN hb h1 24 zF 0 (by omega) (by decide)
-- the way up
def abv (N : Nat → Nat) (j : Nat) : Nat := if 20 ≤ j then 24 else (j / 4 + 1) * 4 + min 3 (j % 4 + N (72 + j) - 1)
theorem abv_lt {N : Nat → Nat} {j : Nat} (h : j < 20) : abv N j < 24 ∧ abv N j / 4 = j / 4 + 1 := by
  unfold abv
  rw [if_neg (by omega)]
  omega
theorem abv_hi {N : Nat → Nat} {j : Nat} (h : 20 ≤ j) : abv N j = 24 := by unfold abv; rw [if_pos h]
theorem abv_le {N : Nat → Nat} (j : Nat) : abv N j ≤ 24 := by
  by_cases h : j < 20
  · have := (abv_lt (N := N) h).1
    omega
  · rw [abv_hi (by omega)]; exact Nat.le_refl _
theorem col_by : ∀ c, c < 4 → ∀ s, s < 3 → z_max 0 (z_min 3 ((nI c + nI s) - 1)) = nI (min 3 (c + s - 1)) := by decide
theorem col_by2 : ∀ c, c < 4 → ∀ s, s < 3 → (if (0 : Int32) ≤ (if (nI c + nI s) - 1 ≤ 3 then (nI c + nI s) - 1 else 3) then (if (nI c + nI s) - 1 ≤ 3 then (nI c + nI s) - 1 else 3) else 0) = nI (min 3 (c + s - 1)) := by decide
theorem m_turned {c s : Nat} (hc : c < 4) (hs : s < 3) (M : zM) : f_X12_turned (nI c) (nI s) M = some (nI (min 3 (c + s - 1)), M) := by
  rw [← col_by2 c hc s hs]
  unfold f_X12_turned f_X12_min f_X12_max
  by_cases h1 : nI c + nI s - 1 ≤ 3
  · by_cases h2 : (0 : Int32) ≤ nI c + nI s - 1
    · simp only [if_pos h1, if_pos h2, z_call_eq]
    · simp only [if_pos h1, if_neg h2, z_call_eq]
  · simp only [if_neg h1, z_call_eq]
    rfl
theorem rem4 {j : Nat} (h : j < 2 ^ 31) : nI j - nI j / 4 * 4 = nI (j % 4) := pk_rem (d := 4) h (by omega) (by omega)
theorem m_above {M : zM} {N : Nat → Nat} (hS : ST M) (hN : MN M 55 N) (hR : NR N) {j : Nat} (hj : j < 24) : f_X12_above 54 (nI j) M = some (nI (abv N j), M) := by
  have hl := hR.2.2.2.1 j hj
  rw [f_X12_above, rem4 (by omega)]
  by_cases h : 20 ≤ j
  · (simp (disch := omega) only [z_rd_eq, z_call_eq, zl_eq, lit, nI_add, nI_mul, nI_div, nI_sub, nI_clamp, nI_leI, nI_ltI, nI_eq, z_ixN, ifTlt, ifFlt, ifTle, ifFle, ifTeq, ifFeq, if_true, if_false, abv_hi h]; try simp (disch := omega) only [ifTlt, ifFlt, ifTle, ifFle, ifTeq, ifFeq, if_true, if_false, z_call_eq, z_rd_eq, zl_eq])
  · (simp (disch := omega) only [z_rd_eq, z_call_eq, zl_eq, lit, nI_add, nI_mul, nI_div, nI_sub, nI_clamp, nI_leI, nI_ltI, nI_eq, z_ixN, ifTlt, ifFlt, ifTle, ifFle, ifTeq, ifFeq, if_true, if_false, (ST.a hS (o := 54) (k := 0) (a := 55) (by decide)), ln55, hN (72 + j) (by omega)]; try simp (disch := omega) only [ifTlt, ifFlt, ifTle, ifFle, ifTeq, ifFeq, if_true, if_false, z_call_eq, z_rd_eq, zl_eq])
    rw [m_turned (by omega) (by omega), z_call_eq, nI_add]
    unfold abv
    rw [if_neg h, Nat.add_mul]
