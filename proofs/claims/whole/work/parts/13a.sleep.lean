/-! sleep: rows of guests in their order, and the best of them -/
def gt (p : List Nat) (k : Nat) : Nat := p.getD k 0
def plw (f : Nat → List (List Nat)) (n : Nat) : Nat → List (List Nat)
  | 0 => []
  | k + 1 => f (n - (k + 1)) ++ plw f n k
def plm (n : Nat) : Nat → List Nat → List (List Nat)
  | 0, p => [p]
  | m + 1, p => plw (fun w => if p.contains w then [] else plm n m (p ++ [w])) n n
def swp (l : Nat → Nat) (a b : Nat) : Nat → Nat := va_up (va_up l a (l b)) b (l a)
def rvr : Nat → (Nat → Nat) → Nat → Nat → (Nat → Nat)
  | 0, l, _, _ => l
  | f + 1, l, a, b => if b ≤ a then l else rvr f (swp l a b) (a + 1) (b - 1)
def pv (l : Nat → Nat) : Nat → Nat
  | 0 => 0
  | i + 1 => if l i ≤ l (i + 1) then i + 1 else pv l i
def fj (l : Nat → Nat) (x : Nat) : Nat → Nat
  | 0 => 0
  | j + 1 => if x ≤ l (j + 1) then j + 1 else fj l x j
def nxt (n : Nat) (l : Nat → Nat) : Option (Nat → Nat) := if pv l (n - 1) = 0 then none else some (rvr 6 (swp l (pv l (n - 1) - 1) (fj l (l (pv l (n - 1) - 1)) (n - 1))) (pv l (n - 1)) (n - 1))
def eqn (l : Nat → Nat) (q : List Nat) : Nat → Bool
  | 0 => true
  | k + 1 => (l k == gt q k) && eqn l q k
def chn (n : Nat) : List Nat → List (List Nat) → Bool
  | p, [] => (nxt n (gt p)).isNone
  | p, q :: r => (match nxt n (gt p) with | none => false | some l => eqn l q n) && chn n q r
def gdp (n : Nat) (p : List Nat) : Bool := (p.length == n) && p.all (fun w => decide (w < n))
def plOK (n : Nat) : Bool := match plm n n [] with
  | [] => false
  | p :: r => decide (r.length < 720) && gdp n p && r.all (gdp n) && eqn (fun k => k) p n && chn n p r
theorem plm_all : ∀ n, n < 7 → 1 ≤ n → plOK n = true := by decide +kernel
theorem eqn_t {l : Nat → Nat} {q : List Nat} : ∀ n, eqn l q n = true → ∀ k, k < n → l k = gt q k := by
  intro n
  induction n with
  | zero => intro _ k hk; omega
  | succ n ih =>
    intro h k hk
    simp only [eqn, Bool.and_eq_true, beq_iff_eq] at h
    by_cases e : k = n
    · rw [e]; exact h.1
    · exact ih h.2 k (by omega)
theorem gdp_t {n : Nat} {p : List Nat} (h : gdp n p = true) : p.length = n ∧ ∀ k, k < n → gt p k < n := by
  simp only [gdp, Bool.and_eq_true, beq_iff_eq, List.all_eq_true, decide_eq_true_eq] at h
  refine ⟨h.1, fun k hk => ?_⟩
  have hk' : k < p.length := by rw [h.1]; exact hk
  have e : gt p k = p[k] := by simp [gt, List.getD_eq_getElem?_getD, hk']
  rw [e]
  exact h.2 _ (List.getElem_mem hk')
theorem gt_lo {p : List Nat} {w k : Nat} (h : k < p.length) : gt (p ++ [w]) k = gt p k := by
  simp [gt, List.getD_eq_getElem?_getD, List.getElem?_append, h]
theorem gt_hi {p : List Nat} {w : Nat} : gt (p ++ [w]) p.length = w := by
  simp [gt, List.getD_eq_getElem?_getD]
/-- what is minded by the first k -/
def psm (mi fe l : Nat → Nat) : Nat → Nat
  | 0 => 0
  | k + 1 => psm mi fe l k + mi (l k) * fe k
theorem psm_cg {mi fe l l' : Nat → Nat} : ∀ k, (∀ j, j < k → l' j = l j) → psm mi fe l' k = psm mi fe l k := by
  intro k
  induction k with
  | zero => intro _; rfl
  | succ k ih => intro h; simp only [psm]; rw [ih (fun j hj => h j (by omega)), h k (by omega)]
theorem psm_ap {mi fe : Nat → Nat} {p : List Nat} {w : Nat} : psm mi fe (gt (p ++ [w])) (p.length + 1) = psm mi fe (gt p) p.length + mi w * fe p.length := by
  simp only [psm]
  rw [gt_hi, psm_cg p.length (fun j hj => gt_lo hj)]
theorem psm_le {mi fe l : Nat → Nat} : ∀ k, (∀ j, j < k → mi (l j) ≤ 255) → (∀ j, j < k → fe j ≤ 2400000) → psm mi fe l k ≤ k * 612000000 := by
  intro k
  induction k with
  | zero => intro _ _; exact Nat.le_refl _
  | succ k ih =>
    intro h1 h2
    simp only [psm]
    have := ih (fun j hj => h1 j (by omega)) (fun j hj => h2 j (by omega))
    have := Nat.mul_le_mul (h1 k (by omega)) (h2 k (by omega))
    omega
def bst (c : List Nat → Nat) (s : Nat × List Nat) (p : List Nat) : Nat × List Nat := if c p < s.1 then (c p, p) else s
theorem bst_le {c : List Nat → Nat} {s : Nat × List Nat} {p : List Nat} : (bst c s p).1 ≤ s.1 := by
  unfold bst
  by_cases h : c p < s.1
  · rw [if_pos h]; exact Nat.le_of_lt h
  · rw [if_neg h]; exact Nat.le_refl _
theorem fold_le {c : List Nat → Nat} : ∀ (L : List (List Nat)) (s : Nat × List Nat), (L.foldl (bst c) s).1 ≤ s.1 := by
  intro L
  induction L with
  | nil => intro s; exact Nat.le_refl _
  | cons p L ih => intro s; exact Nat.le_trans (ih _) bst_le
theorem fold_len {c : List Nat → Nat} {n : Nat} : ∀ (L : List (List Nat)) (s : Nat × List Nat), (∀ p ∈ L, p.length = n) → s.2.length = n → (L.foldl (bst c) s).2.length = n := by
  intro L
  induction L with
  | nil => intro s _ h; exact h
  | cons p L ih =>
    intro s h1 h2
    refine ih _ (fun q hq => h1 q (List.mem_cons_of_mem _ hq)) ?_
    unfold bst
    by_cases h : c p < s.1
    · rw [if_pos h]; exact h1 p (List.mem_cons_self ..)
    · rw [if_neg h]; exact h2
/-- numbers kept but the longs -/
def FrL (l : List Nat) (M M' : zM) : Prop := (∀ c, c ∉ l → M'.1 c = M.1 c) ∧ M'.2.1 = M.2.1
theorem FrL.rf {l : List Nat} {M : zM} : FrL l M M := ⟨fun _ _ => rfl, rfl⟩
theorem FrL.tr {l : List Nat} {M M1 M2 : zM} (h1 : FrL l M M1) (h2 : FrL l M1 M2) : FrL l M M2 := ⟨fun c hc => (h2.1 c hc).trans (h1.1 c hc), h2.2.trans h1.2⟩
theorem Fr.L {l : List Nat} {M M' : zM} (h : Fr l M M') : FrL l M M' := ⟨h.1, by rw [h.2]⟩
theorem FrL.st {l : List Nat} {M M' : zM} (h : FrL l M M') (hS : ST M) : ST M' := hS.to h.2
theorem FrL.mono {l l' : List Nat} {M M' : zM} (h : FrL l M M') (hl : ∀ c, c ∈ l → c ∈ l') : FrL l' M M' := ⟨fun c hc => h.1 c (fun e => hc (hl c e)), h.2⟩
def RW (M : zM) (a : Nat) (p : List Nat) : Prop := ∀ k, k < p.length → M.1 a k = nI (gt p k)
theorem RW.to {M M' : zM} {a : Nat} {p : List Nat} (h : RW M a p) (e : M'.1 a = M.1 a) : RW M' a p := fun k hk => by rw [e]; exact h k hk
theorem ln48 : z_ln SH 48 = 6 := by decide
theorem ln49 : z_ln SH 49 = 6 := by decide
theorem ln50 : z_ln SH 50 = 6 := by decide
theorem ln51 : z_ln SH 51 = 6 := by decide
theorem nI_64 {a : Nat} (h : a < 2 ^ 31) : (nI a).toInt64 = lN a := by
  apply Int64.toInt_inj.mp
  rw [Int32.toInt_toInt64, nI_toInt h]
  unfold lN
  rw [Int64.toInt_ofNat_of_lt (by omega)]
theorem lN_mu (a b : Nat) : lN a * lN b = lN (a * b) := (Int64.ofNat_mul a b).symm
/-- the beds as they are asked -/
def BDS (M : zM) (n : Nat) (mi fe : Nat → Nat) : Prop := M.1 47 4 = nI n ∧ (∀ w, w < n → M.1 48 w = nI (mi w)) ∧ (∀ k, k < n → M.1 49 k = nI (fe k))
theorem BDS.to {M M' : zM} {n : Nat} {mi fe : Nat → Nat} (h : BDS M n mi fe) (hF : FrL [50, 51] M M') : BDS M' n mi fe := by
  unfold BDS
  rw [hF.1 47 (by decide), hF.1 48 (by decide), hF.1 49 (by decide)]
  exact h
theorem c_fill {n : Nat} {mi fe : Nat → Nat} (hn : n ≤ 6) (hmi : ∀ w, w < n → mi w ≤ 255) (hfe : ∀ k, k < n → fe k ≤ 2400000) : ∀ m d (p : List Nat) (U : Nat) (s : Nat × List Nat) (M : zM), p.length + m = n → m < d → (∀ k, k < p.length → gt p k < n) → U < 64 → (∀ w, w < 6 → U.testBit w = p.contains w) → ST M → BDS M n mi fe → RW M 50 p → M.2.2 47 5 = lN s.1 → s.1 ≤ 2 ^ 40 → RW M 51 s.2 → ∃ M', g_X1 d 47 (nI p.length) (nI U) (lN (psm mi fe (gt p) p.length)) M = some ((), M') ∧ FrL [50, 51] M M' ∧ RW M' 50 p ∧ M'.2.2 47 5 = lN ((plm n m p).foldl (bst (fun q => psm mi fe (gt q) n)) s).1 ∧ RW M' 51 ((plm n m p).foldl (bst (fun q => psm mi fe (gt q) n)) s).2 := by
  intro m
  induction m with
  | zero =>
    intro d p U s M hp hd hpn hU hUb hS hB hr hl hs hb
    obtain ⟨d, rfl⟩ : ∃ e, d = e + 1 := ⟨d - 1, by omega⟩
    have hpl : p.length = n := by omega
    have hc : psm mi fe (gt p) n ≤ n * 612000000 := psm_le n (fun j hj => hmi _ (hpn j (by omega))) hfe
    show ∃ M', f_X1_fill (g_X1 d) 47 (nI p.length) (nI U) (lN (psm mi fe (gt p) p.length)) M = some ((), M') ∧ FrL [50, 51] M M' ∧ RW M' 50 p ∧ M'.2.2 47 5 = lN (bst (fun q => psm mi fe (gt q) n) s p).1 ∧ RW M' 51 (bst (fun q => psm mi fe (gt q) n) s p).2
    rw [f_X1_fill, hB.1, hpl, if_neg (nI_nlt (Nat.le_refl _) (by omega)), hl]
    unfold bst
    by_cases q : psm mi fe (gt p) n < s.1
    · rw [if_neg (fun z => by have := (lN_leI (by omega) (by omega)).mp ((lg_cmp_ge _ _).mp z); omega), if_pos q, zl_eq]
      refine ⟨(cp1 51 50 n M.1, M.2.1, zu M.2.2 47 5 (lN (psm mi fe (gt p) n))), ?_, ⟨fun c hc => cp1_o (by simp at hc; omega), rfl⟩, fun k hk => ?_, ?_, fun k hk => ?_⟩
      · show z_rd (M.2.1 47 2) _ = _
        rw [(ST.a hS (o := 47) (k := 2) (a := 50) (by decide)), z_rd_eq]
        show z_rd (M.2.1 47 3) _ = _
        rw [(ST.a hS (o := 47) (k := 3) (a := 51) (by decide)), z_rd_eq]
        show (if ¬ (M.1 47 4 < 0) then _ else _) = _
        rw [hB.1, if_pos (nI_pos (by omega)), c0, nI_clamp (by omega), ln50, ln51, if_pos (by omega), if_pos (by omega), zl_eq]
        rfl
      · show cp1 51 50 n M.1 50 k = _
        rw [cp1_o (by decide)]; exact hr k hk
      · exact zu_same M.2.2 47 5 _
      · show cp1 51 50 n M.1 51 k = _
        have hk' : k < p.length := hk
        rw [cp1_s (by omega)]; exact hr k hk
    · rw [if_pos ((lg_cmp_ge _ _).mpr ((lN_leI (by omega) (by omega)).mpr (by omega))), if_neg q]
      exact ⟨M, rfl, FrL.rf, hr, hl, hb⟩
  | succ m ih =>
    intro d p U s M hp hd hpn hU hUb hS hB hr hl hs hb
    obtain ⟨d, rfl⟩ : ∃ e, d = e + 1 := ⟨d - 1, by omega⟩
    show ∃ M', f_X1_fill (g_X1 d) 47 (nI p.length) (nI U) (lN (psm mi fe (gt p) p.length)) M = some ((), M') ∧ FrL [50, 51] M M' ∧ RW M' 50 p ∧ M'.2.2 47 5 = lN ((plw (fun w => if p.contains w then [] else plm n m (p ++ [w])) n n).foldl (bst (fun q => psm mi fe (gt q) n)) s).1 ∧ RW M' 51 ((plw (fun w => if p.contains w then [] else plm n m (p ++ [w])) n n).foldl (bst (fun q => psm mi fe (gt q) n)) s).2
    rw [f_X1_fill, hB.1, if_pos ((nI_ltI (by omega) (by omega)).mpr (by omega))]
    -- the loop over guests
    have inner : ∀ k nf i (s : Nat × List Nat) (M : zM), i + k = n → k < nf → ST M → BDS M n mi fe → RW M 50 p → M.2.2 47 5 = lN s.1 → s.1 ≤ 2 ^ 40 → RW M 51 s.2 → ∃ M', f_X1_fill_43 (g_X1 d) 47 (nI p.length) (nI U) (lN (psm mi fe (gt p) p.length)) nf (nI i) M = some ((), M') ∧ FrL [50, 51] M M' ∧ RW M' 50 p ∧ M'.2.2 47 5 = lN ((plw (fun w => if p.contains w then [] else plm n m (p ++ [w])) n k).foldl (bst (fun q => psm mi fe (gt q) n)) s).1 ∧ RW M' 51 ((plw (fun w => if p.contains w then [] else plm n m (p ++ [w])) n k).foldl (bst (fun q => psm mi fe (gt q) n)) s).2 := by
      intro k
      induction k with
      | zero =>
        intro nf i s M hi hnf hS hB hr hl hs hb
        obtain ⟨nf, rfl⟩ : ∃ e, nf = e + 1 := ⟨nf - 1, by omega⟩
        refine ⟨M, ?_, FrL.rf, hr, hl, hb⟩
        rw [f_X1_fill_43, hB.1, if_pos ((nI_leI (by omega) (by omega)).mpr (by omega))]
      | succ k ih2 =>
        intro nf i s M hi hnf hS hB hr hl hs hb
        obtain ⟨nf, rfl⟩ : ∃ e, nf = e + 1 := ⟨nf - 1, by omega⟩
        have hi' : n - (k + 1) = i := by omega
        have hbit := hUb i (by omega)
        rw [f_X1_fill_43, hB.1, if_neg (nI_ge (by omega) (by omega)), r_bit (by omega) (by omega), hbit]
        simp only [plw, hi', List.foldl_append]
        by_cases q : p.contains i = true
        · rw [if_pos q, if_neg (by decide), if_pos q, f_X1_fill_100, zl_eq, nI_1]
          exact ih2 nf (i + 1) s M (by omega) (by omega) hS hB hr hl hs hb
        · rw [if_neg q, if_pos rfl, if_neg q, (ST.a hS (o := 47) (k := 2) (a := 50) (by decide)), z_rd_eq, ln50, if_pos (by rw [z_ixN (by omega)]; omega), zl_eq, nI_clamp (by omega)]
          have f1 : Fr [50] M (zu M.1 50 p.length (nI i), M.2) := Fr.zu (by simp)
          have s1 := f1.st hS
          have fL : FrL [50, 51] M (zu M.1 50 p.length (nI i), M.2) := f1.L.mono (by decide)
          have B1 := hB.to fL
          have r1 : RW (zu M.1 50 p.length (nI i), M.2) 50 (p ++ [i]) := by
            intro j hj
            rw [List.length_append, List.length_singleton] at hj
            show zu M.1 50 p.length (nI i) 50 j = _
            by_cases e : j = p.length
            · rw [e, zu_same, gt_hi]
            · rw [zu_ne _ _ _ e, gt_lo (by omega)]; exact hr j (by omega)
          have hap : (p ++ [i]).length = p.length + 1 := by simp
          obtain ⟨M2, a1, a2, a3, a4, a5⟩ := ih d (p ++ [i]) (U ||| 2 ^ i) s (zu M.1 50 p.length (nI i), M.2) (by rw [hap]; omega) (by omega) (fun j hj => by
              rw [hap] at hj
              by_cases e : j = p.length
              · rw [e, gt_hi]; omega
              · rw [gt_lo (by omega)]; exact hpn j (by omega)) (Nat.or_lt_two_pow (n := 6) (by omega) (Nat.pow_lt_pow_right (by omega) (by omega))) (fun w hw => by
              rw [Nat.testBit_or, hUb w hw, Nat.testBit_two_pow]
              by_cases e : w = i
              · simp [e]
              · simp [e, Ne.symm e]) s1 B1 r1 hl hs (hb.to (f1.1 51 (by decide)))
          rw [hap, psm_ap] at a1
          obtain ⟨M3, b1, b2, b3, b4, b5⟩ := ih2 nf (i + 1) _ M2 (by omega) (by omega) (a2.st s1) (B1.to a2) (fun j hj => by rw [a3 j (by rw [hap]; omega), gt_lo hj]) a4 (Nat.le_trans (fold_le _ _) hs) a5
          refine ⟨M3, ?_, (fL.tr a2).tr b2, b3, b4, b5⟩
          rw [(ST.a s1 (o := 47) (k := 0) (a := 48) (by decide)), z_rd_eq, ln48, if_pos (by rw [z_ixN (by omega)]; omega), (ST.a s1 (o := 47) (k := 1) (a := 49) (by decide)), z_rd_eq, ln49, if_pos (by rw [z_ixN (by omega)]; omega), nI_clamp (by omega), B1.2.1 i (by omega), B1.2.2 p.length (by omega), nI_64 (by have := hmi i (by omega); omega), nI_64 (by have := hfe p.length (by omega); omega), lN_mu, lN_ad, nI_bit i (by omega), nI_or, nI_1, a1, z_call_eq, f_X1_fill_100, zl_eq, nI_1]
          exact b1
    exact inner n zF 0 s M (by omega) (by unfold zF; omega) hS hB hr hl hs hb
