/-! the class runs a law's steps -/
def LO (q : Nat) : Prop := q = 21 ∨ q = 29
theorem LO.lns {q : Nat} (h : LO q) : z_ln SH (q + 1) = 240 ∧ z_ln SH (q + 2) = 240 ∧ z_ln SH (q + 3) = 16 ∧ z_ln SH (q + 4) = 16 ∧ z_ln SH (q + 5) = 16 ∧ z_ln SH (q + 6) = 16 ∧ z_ln SH (q + 7) = 15 := by
  rcases h with rfl | rfl <;> exact ⟨rfl, rfl, rfl, rfl, rfl, rfl, rfl⟩
theorem LO.rs {q : Nat} (h : LO q) {M : zM} (hS : ST M) : M.2.1 q 0 = some (q + 1) ∧ M.2.1 q 1 = some (q + 2) ∧ M.2.1 q 2 = some (q + 3) ∧ M.2.1 q 3 = some (q + 4) ∧ M.2.1 q 4 = some (q + 5) ∧ M.2.1 q 5 = some (q + 6) ∧ M.2.1 q 8 = some (q + 7) := by
  rcases h with rfl | rfl <;> exact ⟨hS.a (by decide), hS.a (by decide), hS.a (by decide), hS.a (by decide), hS.a (by decide), hS.a (by decide), hS.a (by decide)⟩
/-- the law's own numbers alone change: top, holds, refused, stack -/
def FQ (q : Nat) (M M' : zM) : Prop := Fr [q, q + 7] M M' ∧ ∀ j, j ∉ [9, 10, 11] → M'.1 q j = M.1 q j
theorem FQ.rf {q : Nat} {M : zM} : FQ q M M := ⟨Fr.rf, fun _ _ => rfl⟩
theorem FQ.tr {q : Nat} {M M1 M2 : zM} (h1 : FQ q M M1) (h2 : FQ q M1 M2) : FQ q M M2 := ⟨h1.1.tr h2.1, fun j hj => (h2.2 j hj).trans (h1.2 j hj)⟩
theorem FQ.q {q j : Nat} {M : zM} {v : Int32} (hj : j ∈ [9, 10, 11]) : FQ q M (zu M.1 q j v, M.2) := ⟨Fr.zu (by simp), fun i hi => zu_ne M.1 q v (fun e => hi (e ▸ hj))⟩
theorem FQ.s {q j : Nat} {M : zM} {v : Int32} : FQ q M (zu M.1 (q + 7) j v, M.2) := ⟨Fr.zu (by simp), fun i _ => by
  show zu M.1 (q + 7) j v q i = _
  rw [zu_cell _ _ _ (by omega)]⟩
theorem FQ.c {q c : Nat} {M M' : zM} (h : FQ q M M') (h1 : c ≠ q) (h2 : c ≠ q + 7) : M'.1 c = M.1 c := h.1.1 c (by simp; exact ⟨h1, h2⟩)
/-- what is asked of: so much from r, at p, in the shaft o -/
def fcs (N : Nat → Nat) (r p m : Nat) : Nat → Int32
  | 0 => nI r
  | 1 => nI (N (24 + r))
  | 2 => nI p
  | 3 => nI (p / 4)
  | 4 => nI (g_sum N (120 + 24 * p) 24)
  | 5 => nI (N (96 + p))
  | 6 => nI m
  | _ => nI (N 697 % 24)
def LK (M : zM) (q o : Nat) (N : Nat → Nat) (r p m : Nat) : Prop := M.1 q 13 = nI r ∧ M.1 q 14 = nI p ∧ M.1 q 15 = nI m ∧ M.2.1 q 12 = some o ∧ CS M o N
theorem LK.to {M M' : zM} {q o r p m : Nat} {N : Nat → Nat} (hq : LO q) (hO : SO o) (h : LK M q o N r p m) (hF : FQ q M M') : LK M' q o N r p m := by
  obtain ⟨h1, h2, h3, h4, h5⟩ := h
  have hqo : o + 5 < q := by rcases hq with rfl | rfl <;> rcases hO with rfl | rfl | rfl <;> omega
  exact ⟨(hF.2 13 (by decide)).trans h1, (hF.2 14 (by decide)).trans h2, (hF.2 15 (by decide)).trans h3, by rw [hF.1.2]; exact h4, h5.to (fun c a b => hF.c (by omega) (by omega))⟩
theorem rem24 {j : Nat} (h : j < 2 ^ 31) : nI j - nI j / 24 * 24 = nI (j % 24) := pk_rem (d := 24) h (by omega) (by omega)
theorem c_letter {M : zM} {q o r p m i : Nat} {N : Nat → Nat} (hq : LO q) (hO : SO o) (hS : ST M) (hL : LK M q o N r p m) (hr : r < 24) (hp : p < 24) (hh : N 697 ≤ 99999) (hi : i < 8) : f_X4_letter q (ltr i) M = some (fcs N r p m i, M) := by
  obtain ⟨h1, h2, h3, h4, h5⟩ := hL
  obtain ⟨l1, l2, l3, l4, l5⟩ := hO.lns
  obtain ⟨r1, r2, r3, r4, r5⟩ := hO.rs hS
  have d : ∀ {α : Type} (x y z w v : α), (if nI r < 0 then x else if 24 ≤ nI r then y else if nI p < 0 then z else if nI p < 24 then w else v) = w := by
    intro α x y z w v
    rw [if_neg (nI_pos (by omega)), if_neg (show ¬ (24 : Int32) ≤ nI r from nI_ge (b := 24) hr (by omega)), if_neg (nI_pos (by omega)), if_pos (show nI p < (24 : Int32) from (nI_ltI (b := 24) (by omega) (by omega)).mpr hp)]
  rw [f_X4_letter, h1, h2, d, h3]
  rcases (show i = 0 ∨ i = 1 ∨ i = 2 ∨ i = 3 ∨ i = 4 ∨ i = 5 ∨ i = 6 ∨ i = 7 by omega) with rfl | rfl | rfl | rfl | rfl | rfl | rfl | rfl
  · rw [if_neg (by decide), if_neg (by decide), if_neg (by decide), if_neg (by decide), if_neg (by decide), if_pos (by decide)]; rfl
  · rw [if_neg (by decide), if_neg (by decide), if_neg (by decide), if_neg (by decide), if_neg (by decide), if_neg (by decide), if_pos (by decide), h4, z_rd_eq, r1, z_rd_eq, l1, if_pos (by rw [z_ixN (by omega)]; omega), nI_clamp (by omega), h5.1 r hr]; rfl
  · rw [if_neg (by decide), if_neg (by decide), if_neg (by decide), if_neg (by decide), if_pos (by decide)]; rfl
  · rw [if_neg (by decide), if_pos (by decide), show (4 : Int32) = nI 4 from rfl, nI_div (by omega) (by omega) (by omega)]; rfl
  · rw [if_neg (by decide), if_neg (by decide), if_neg (by decide), if_neg (by decide), if_neg (by decide), if_neg (by decide), if_neg (by decide), if_pos (by decide), h4, z_rd_eq, r5, z_rd_eq, l5, if_pos (by rw [z_ixN (by omega)]; omega), nI_clamp (by omega), h5.2.2.2.2.1 p hp]; rfl
  · rw [if_neg (by decide), if_neg (by decide), if_pos (by decide), h4, z_rd_eq, r3, z_rd_eq, l3, if_pos (by rw [z_ixN (by omega)]; omega), nI_clamp (by omega), h5.2.2.1 p hp]; rfl
  · rw [if_pos (by decide)]; rfl
  · rw [if_neg (by decide), if_neg (by decide), if_neg (by decide), if_pos (by decide), h4, z_rd_eq, h5.2.2.2.2.2.2.2.2.1, rem24 (by omega)]; rfl
theorem c_push {M : zM} {q t : Nat} {v : Int32} (hq : LO q) (hS : ST M) (h9 : M.1 q 9 = nI t) (ht : t < 15) : f_X4_push q v M = some ((), (zu (zu M.1 (q + 7) t v) q 9 (nI (t + 1)), M.2)) := by
  obtain ⟨l1, l2, l3, l4, l5, l6, l7⟩ := hq.lns
  obtain ⟨r1, r2, r3, r4, r5, r6, r7⟩ := hq.rs hS
  rw [f_X4_push, h9, if_neg (nI_pos (by omega)), if_neg (show ¬ (15 : Int32) ≤ nI t from nI_ge (b := 15) ht (by omega)), r7, z_rd_eq, l7, if_pos (by rw [z_ixN (by omega)]; omega), zl_eq, zl_eq, nI_clamp (by omega)]
  have : zu M.1 (q + 7) t v q 9 = nI t := by rw [zu_cell _ _ _ (by omega)]; exact h9
  show some ((), (zu (zu M.1 (q + 7) t v) q 9 (zu M.1 (q + 7) t v q 9 + 1), M.2)) = _
  rw [this, nI_1]
theorem c_cmp {M : zM} {q i : Nat} (hq : LO q) (hS : ST M) (h9 : M.1 q 9 = nI 2) (hi : i < 3) : f_X4_compareTwo q (cms i) M = some ((), (zu (zu M.1 q 9 (nI 0)) q 10 (rk (7 + i) (M.1 (q + 7) 0) (M.1 (q + 7) 1)), M.2)) := by
  obtain ⟨l1, l2, l3, l4, l5, l6, l7⟩ := hq.lns
  obtain ⟨r1, r2, r3, r4, r5, r6, r7⟩ := hq.rs hS
  rw [f_X4_compareTwo, h9, if_neg (by decide), if_pos (by decide), r7, z_rd_eq, l7, if_pos (by decide), zl_eq, z_rd_eq, l7, if_pos (by decide), zl_eq, zl_eq, show ((nI 2 - 1 : Int32).toNatClampNeg) = 1 by decide, show ((nI 2 - 2 : Int32).toNatClampNeg) = 0 by decide, show (nI 2 - 2 : Int32) = nI 0 by decide]
  rcases (show i = 0 ∨ i = 1 ∨ i = 2 by omega) with rfl | rfl | rfl
  · rw [if_pos (by decide)]
    show _ = some ((), (zu (zu M.1 q 9 (nI 0)) q 10 (if M.1 (q + 7) 1 ≤ M.1 (q + 7) 0 then 0 else 1), M.2))
    by_cases z : M.1 (q + 7) 1 ≤ M.1 (q + 7) 0
    · rw [if_pos z, if_pos z, f_X4_compareTwo_101, if_pos (by decide), zl_eq]
    · rw [if_neg z, if_neg z, f_X4_compareTwo_101, if_pos (by decide), zl_eq]
  · rw [if_neg (by decide), if_pos (by decide)]
    show _ = some ((), (zu (zu M.1 q 9 (nI 0)) q 10 (if M.1 (q + 7) 0 ≤ M.1 (q + 7) 1 then 0 else 1), M.2))
    by_cases z : M.1 (q + 7) 0 ≤ M.1 (q + 7) 1
    · rw [if_pos z, if_pos z, f_X4_compareTwo_101, if_pos (by decide), zl_eq]
    · rw [if_neg z, if_neg z, f_X4_compareTwo_101, if_pos (by decide), zl_eq]
  · rw [if_neg (by decide), if_neg (by decide)]
    show _ = some ((), (zu (zu M.1 q 9 (nI 0)) q 10 (if M.1 (q + 7) 0 = M.1 (q + 7) 1 then 1 else 0), M.2))
    by_cases z : M.1 (q + 7) 0 = M.1 (q + 7) 1
    · rw [if_pos z, if_pos z, f_X4_compareTwo_101, if_pos (by decide), zl_eq]
    · rw [if_neg z, if_neg z, f_X4_compareTwo_101, if_pos (by decide), zl_eq]
theorem c_rec {M : zM} {q i t : Nat} (hq : LO q) (hS : ST M) (h9 : M.1 q 9 = nI t) (h2 : 2 ≤ t) (h15 : t ≤ 15) (hi : i < 5) : f_X4_reckonTwo q (ars i) M = some ((), if (2 + i = 5 ∨ 2 + i = 6) ∧ M.1 (q + 7) (t - 1) = 0 then (zu (zu M.1 q 9 (nI (t - 1))) q 11 1, M.2) else (zu (zu M.1 q 9 (nI (t - 1))) (q + 7) (t - 2) (rk (2 + i) (M.1 (q + 7) (t - 2)) (M.1 (q + 7) (t - 1))), M.2)) := by
  obtain ⟨l1, l2, l3, l4, l5, l6, l7⟩ := hq.lns
  obtain ⟨r1, r2, r3, r4, r5, r6, r7⟩ := hq.rs hS
  have e1 : (nI t - 1 : Int32) = nI (t - 1) := nI_sub (b := 1) (by omega)
  have e2 : (nI t - 2 : Int32) = nI (t - 2) := nI_sub (b := 2) (by omega)
  have e3 : (nI (t - 1) - 1 : Int32) = nI (t - 2) := (nI_sub (b := 1) (by omega)).trans (by rw [show t - 1 - 1 = t - 2 by omega])
  rw [f_X4_reckonTwo, h9, if_neg (show ¬ nI t < (2 : Int32) from nI_nlt (b := 2) h2 (by omega)), if_pos (show nI t ≤ (15 : Int32) from nI_le (b := 15) h15 (by omega)), e1, e2, r7, z_rd_eq, l7, if_pos (by rw [z_ixN (by omega)]; omega), zl_eq, z_rd_eq, l7, if_pos (by rw [z_ixN (by omega)]; omega), zl_eq, zl_eq, nI_clamp (by omega), nI_clamp (by omega)]
  have t9 : (zu M.1 q 9 (nI (t - 1)), M.2).1 q 9 = nI (t - 1) := zu_same M.1 q 9 _
  rw [t9, e3]
  rcases (show i = 0 ∨ i = 1 ∨ i = 2 ∨ i = 3 ∨ i = 4 by omega) with rfl | rfl | rfl | rfl | rfl
  · rw [if_pos (by decide), r7, z_rd_eq, l7, if_pos (by rw [z_ixN (by omega)]; omega), zl_eq, nI_clamp (by omega), if_neg (by omega)]; rfl
  · rw [if_neg (by decide), if_pos (by decide), r7, z_rd_eq, l7, if_pos (by rw [z_ixN (by omega)]; omega), zl_eq, nI_clamp (by omega), if_neg (by omega)]; rfl
  · rw [if_neg (by decide), if_neg (by decide), if_pos (by decide), r7, z_rd_eq, l7, if_pos (by rw [z_ixN (by omega)]; omega), zl_eq, nI_clamp (by omega), if_neg (by omega)]; rfl
  · rw [if_neg (by decide), if_neg (by decide), if_neg (by decide)]
    by_cases z : M.1 (q + 7) (t - 1) = 0
    · rw [if_pos z, if_pos ⟨Or.inl rfl, z⟩, zl_eq]
    · rw [if_neg z, if_neg (fun h => z h.2), r7, z_rd_eq, if_pos (by decide), if_pos z, f_X4_reckonTwo_158, l7, if_pos (by rw [z_ixN (by omega)]; omega), zl_eq, nI_clamp (by omega)]; rfl
  · rw [if_neg (by decide), if_neg (by decide), if_neg (by decide)]
    by_cases z : M.1 (q + 7) (t - 1) = 0
    · rw [if_pos z, if_pos ⟨Or.inr rfl, z⟩, zl_eq]
    · rw [if_neg z, if_neg (fun h => z h.2), r7, z_rd_eq, if_neg (by decide), if_pos z, f_X4_reckonTwo_158, l7, if_pos (by rw [z_ixN (by omega)]; omega), zl_eq, nI_clamp (by omega)]; rfl
theorem c_refused {M : zM} {q f : Nat} {e x i : Int32} (h : M.1 q 11 = 1) : f_X4_run_20 q e (f + 1) x i M = some ((), M) := by
  rw [f_X4_run_20]
  by_cases h1 : 240 ≤ i
  · rw [if_pos h1]
  rw [if_neg h1]
  by_cases h2 : x < 0
  · rw [if_pos h2]
  rw [if_neg h2]
  by_cases h3 : e ≤ x
  · rw [if_pos h3]
  rw [if_neg h3]
  by_cases h4 : M.1 q 6 ≤ x
  · rw [if_pos h4]
  rw [if_neg h4, h, if_neg (by decide)]
theorem c_ended {M : zM} {q f e i : Nat} (he : e ≤ 240) : f_X4_run_20 q (nI e) (f + 1) (nI e) (nI i) M = some ((), M) := by
  rw [f_X4_run_20]
  by_cases h1 : 240 ≤ nI i
  · rw [if_pos h1]
  rw [if_neg h1, if_neg (nI_pos (by omega)), if_pos (nI_le (Nat.le_refl _) (by omega))]
