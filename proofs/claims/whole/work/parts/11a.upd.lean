/-! changes: frames, and the small ones -/
theorem va_ne {α : Type} {f : Nat → α} {k i : Nat} {v : α} (h : i ≠ k) : va_up f k v i = f i := by simp [va_up, h]
theorem va_eq {α : Type} {f : Nat → α} {k : Nat} {v : α} : va_up f k v k = v := by simp [va_up]
theorem MN.to {M M' : zM} {a : Nat} {N : Nat → Nat} (h : MN M a N) (e : M'.1 a = M.1 a) : MN M' a N := fun k hk => by rw [e]; exact h k hk
theorem CS.to {M M' : zM} {o : Nat} {N : Nat → Nat} (h : CS M o N) (e : ∀ c, o ≤ c → c ≤ o + 5 → M'.1 c = M.1 c) : CS M' o N := by
  obtain ⟨h1, h2, h3, h4, h5, h6, h7, h8, h9, h10⟩ := h
  have e0 := e o (by omega) (by omega)
  have e1 := e (o + 1) (by omega) (by omega)
  have e2 := e (o + 2) (by omega) (by omega)
  have e3 := e (o + 3) (by omega) (by omega)
  have e4 := e (o + 4) (by omega) (by omega)
  have e5 := e (o + 5) (by omega) (by omega)
  unfold CS
  rw [e0, e1, e2, e3, e4, e5]
  exact ⟨h1, h2, h3, h4, h5, h6, h7, h8, h9, h10⟩
theorem CS.ghost {M : zM} {o : Nat} {N N' : Nat → Nat} (h : CS M o N) (e : ∀ k, k < 699 → N' k = N k) : CS M o N' := by
  obtain ⟨h1, h2, h3, h4, h5, h6, h7, h8, h9, h10⟩ := h
  refine ⟨fun r hr => ?_, fun r hr => ?_, fun r hr => ?_, fun r hr => ?_, fun r hr => ?_, ?_, ?_, ?_, ?_, ?_⟩
  · rw [e _ (by omega)]; exact h1 r hr
  · rw [e _ (by omega)]; exact h2 r hr
  · rw [e _ (by omega)]; exact h3 r hr
  · rw [e _ (by omega)]; exact h4 r hr
  · rw [g_sum_congr (N := N) (fun k hk => e _ (by omega))]; exact h5 r hr
  · rw [g_bits_congr (N := N) (fun k hk => e _ (by omega))]; exact h6
  · rw [g_bits_congr (N := N) (fun k hk => e _ (by omega))]; exact h7
  · rw [e _ (by omega)]; exact h8
  · rw [e _ (by omega)]; exact h9
  · rw [e _ (by omega)]; exact h10
theorem MN.off {M : zM} {a c j : Nat} {v : Int32} {N : Nat → Nat} (h : MN M a N) (hc : a ≠ c) : MN (zu M.1 c j v, M.2) a N := by
  intro k hk
  show zu M.1 c j v a k = _
  rw [zu_cell _ _ _ hc]
  exact h k hk
theorem CS.off {M : zM} {o c j : Nat} {v : Int32} {N : Nat → Nat} (h : CS M o N) (hc : c < o ∨ o + 5 < c) : CS (zu M.1 c j v, M.2) o N := by
  refine h.to (fun d h1 h2 => ?_)
  show zu M.1 c j v d = _
  exact zu_cell _ _ _ (by omega)
theorem KP.to {M M' : zM} {K : Nat → Nat} (h : KP M K) (e0 : M'.1 0 13 = M.1 0 13) (e1 : M'.1 54 41 = M.1 54 41) (e2 : M'.1 57 = M.1 57) (e3 : ∀ c, 9 ≤ c → c ≤ 14 → M'.1 c = M.1 c) : KP M' K := by
  unfold KP
  rw [e0, e1]
  rcases h with h | ⟨a, b, c, d, e⟩
  · exact Or.inl h
  · exact Or.inr ⟨a, b, c, d.to e2, e.to e3⟩
theorem TP.to {M M' : zM} (h : TP M) (e0 : M'.1 1 1 = M.1 1 1) (e1 : M'.1 54 4 = M.1 54 4) (e2 : M'.1 2 = M.1 2) (e3 : M'.1 58 = M.1 58) : TP M' := by
  unfold TP
  rw [e0, e1, e2, e3]
  exact h
theorem LW.to {M M' : zM} (h : LW M) (e0 : M'.2.1 0 11 = M.2.1 0 11) (e1 : M'.2.1 0 12 = M.2.1 0 12) (e2 : ∀ q, (q = 21 ∨ q = 29) → M'.1 q 6 = M.1 q 6 ∧ M'.1 q 7 = M.1 q 7 ∧ M'.1 (q + 1) = M.1 (q + 1) ∧ M'.1 (q + 2) = M.1 (q + 2) ∧ M'.1 (q + 3) = M.1 (q + 3) ∧ M'.1 (q + 4) = M.1 (q + 4) ∧ M'.1 (q + 5) = M.1 (q + 5) ∧ M'.1 (q + 6) = M.1 (q + 6)) (e3 : M'.1 65 = M.1 65 ∧ M'.1 66 = M.1 66 ∧ M'.1 67 = M.1 67 ∧ M'.1 68 = M.1 68 ∧ M'.1 69 = M.1 69) (e4 : M'.1 54 13 = M.1 54 13) : LW M' := by
  obtain ⟨q, hq, l1, l2, l3⟩ := h
  obtain ⟨a1, a2, a3, a4, a5, a6, a7, a8⟩ := e2 q hq
  obtain ⟨b1, b2, b3, b4, b5⟩ := e3
  refine ⟨q, hq, e0.trans l1, e1.trans l2, ?_⟩
  rw [a1, a2, a3, a4, a5, a6, a7, a8, b1, b2, b3, b4, b5, e4]
  exact l3
/-- the invariant behind a change of the shaft and of the reference's numbers alone -/
theorem Inv.of {M M2 : zM} {K N' : Nat → Nat} (hS : ST M) (hK : KP M K) (hT : TP M) (hL : LW M) (hF : Fr [3, 4, 5, 6, 7, 8, 55] M M2) (hR : NR N') (hN : MN M2 55 N') (hC : CS M2 3 N') : Inv M2 := by
  have e : ∀ c, c ∉ [3, 4, 5, 6, 7, 8, 55] → M2.1 c = M.1 c := hF.1
  refine ⟨N', K, hF.st hS, hR, hN, hC, hK.to (by rw [e 0 (by decide)]) (by rw [e 54 (by decide)]) (e 57 (by decide)) (fun c h1 h2 => e c (by simp; omega)), hT.to (by rw [e 1 (by decide)]) (by rw [e 54 (by decide)]) (e 2 (by decide)) (e 58 (by decide)), hL.to (by rw [hF.2]) (by rw [hF.2]) ?_ ⟨e 65 (by decide), e 66 (by decide), e 67 (by decide), e 68 (by decide), e 69 (by decide)⟩ (by rw [e 54 (by decide)])⟩
  intro q hq
  rcases hq with rfl | rfl
  · rw [e 21 (by decide)]
    exact ⟨rfl, rfl, e 22 (by decide), e 23 (by decide), e 24 (by decide), e 25 (by decide), e 26 (by decide), e 27 (by decide)⟩
  · rw [e 29 (by decide)]
    exact ⟨rfl, rfl, e 30 (by decide), e 31 (by decide), e 32 (by decide), e 33 (by decide), e 34 (by decide), e 35 (by decide)⟩
theorem MN.set {M : zM} {a : Nat} {N : Nat → Nat} (h : MN M a N) {k v : Nat} : MN (zu M.1 a k (nI v), M.2) a (va_up N k v) := by
  intro i hi
  show zu M.1 a k (nI v) a i = _
  by_cases e : i = k
  · subst e; rw [zu_same, va_eq]
  · rw [zu_ne _ _ _ e, va_ne e]; exact h i hi
theorem p_seed : ok_seed Inv := by
  intro M hI a
  obtain ⟨N, K, hS, hR, hN, hC, hK, hT, hL⟩ := id hI
  rcases f_in_cases a 65535 (by omega) with ⟨x, hx, rfl⟩ | ha
  · have hS1 : ST (zu M.1 3 9 (nI x), M.2) := hS.to rfl
    have hN1 : MN (zu M.1 3 9 (nI x), M.2) 55 N := hN.off (by decide)
    refine ⟨1, (zu M.1 3 9 (nI x), M.2), (zu (zu M.1 3 9 (nI x)) 55 698 (nI x), M.2), ?_, ?_, ?_⟩
    · rw [f_X11_seed, e_within, show (65535 : Int32) = nI 65535 from rfl, e_in1 (by omega) hx, z_call_eq, if_neg (by decide), (ST.a hS (o := 0) (k := 1) (a := 3) (by decide)), z_rd_eq, zl_eq]
    · rw [f_X12_seed, show (65535 : Int32) = nI 65535 from rfl, e_in1 (by omega) hx, z_call_eq, if_neg (by decide), (ST.a hS1 (o := 54) (k := 0) (a := 55) (by decide)), z_rd_eq, if_pos (by decide), zl_eq]
      rfl
    · refine Inv.of hS hK hT hL ((Fr.zu (M := M) (c := 3) (by decide)).tr (Fr.zu (M := (zu M.1 3 9 (nI x), M.2)) (c := 55) (by decide))) (N' := va_up N 698 x) ?_ (MN.set (M := (zu M.1 3 9 (nI x), M.2)) hN1) ?_
      · obtain ⟨r1, r2, r3, r4, r5, r6, r7, r8, r9, r10⟩ := hR
        refine ⟨fun r hr => ?_, fun r hr => ?_, fun r hr => ?_, fun r hr => ?_, fun r hr => ?_, fun r hr => ?_, ?_, ?_, ?_, fun r hr => ?_⟩
        · rw [va_ne (by omega)]; exact r1 r hr
        · rw [va_ne (by omega)]; exact r2 r hr
        · rw [va_ne (by omega)]; exact r3 r hr
        · rw [va_ne (by omega)]; exact r4 r hr
        · rw [va_ne (by omega)]; exact r5 r hr
        · rw [va_ne (by omega)]; exact r6 r hr
        · rw [va_ne (by omega)]; exact r7
        · rw [va_ne (by omega)]; exact r8
        · rw [va_eq]; exact hx
        · rw [va_ne (by omega), va_ne (by omega)]; exact r10 r hr
      · obtain ⟨h1, h2, h3, h4, h5, h6, h7, h8, h9, h10⟩ := hC
        have q : ∀ c, c ≠ 3 → c ≠ 55 → (zu (zu M.1 3 9 (nI x)) 55 698 (nI x)) c = M.1 c := fun c a b => (zu_cell _ _ _ b).trans (zu_cell _ _ _ a)
        have q3 : (zu (zu M.1 3 9 (nI x)) 55 698 (nI x)) 3 = va_up (M.1 3) 9 (nI x) := (zu_cell _ _ _ (by decide)).trans (zu_self _ _ _ _)
        unfold CS
        simp only [q 4 (by decide) (by decide), q 5 (by decide) (by decide), q 6 (by decide) (by decide), q 7 (by decide) (by decide), q 8 (by decide) (by decide), q3, show (3 + 1 : Nat) = 4 from rfl, show (3 + 2 : Nat) = 5 from rfl, show (3 + 3 : Nat) = 6 from rfl, show (3 + 4 : Nat) = 7 from rfl, show (3 + 5 : Nat) = 8 from rfl]
        refine ⟨fun r hr => ?_, fun r hr => ?_, fun r hr => ?_, fun r hr => ?_, fun r hr => ?_, ?_, ?_, ?_, ?_, ?_⟩
        · rw [va_ne (by omega)]; exact h1 r hr
        · rw [va_ne (by omega)]; exact h2 r hr
        · rw [va_ne (by omega)]; exact h3 r hr
        · rw [va_ne (by omega)]; exact h4 r hr
        · rw [g_sum_congr (N := N) (fun k hk => va_ne (by omega))]; exact h5 r hr
        · rw [g_bits_congr (N := N) (fun k hk => va_ne (by omega)), va_ne (by decide)]; exact h6
        · rw [g_bits_congr (N := N) (fun k hk => va_ne (by omega)), va_ne (by decide)]; exact h7
        · rw [va_ne (by decide), va_ne (by omega)]; exact h8
        · rw [va_ne (by decide), va_ne (by omega)]; exact h9
        · rw [va_eq, va_eq]
  · refine ⟨0, M, M, ?_, ?_, hI⟩
    · rw [f_X11_seed, e_within, show (65535 : Int32) = nI 65535 from rfl, e_in0 (by omega) ha, z_call_eq, if_pos rfl]
    · rw [f_X12_seed, show (65535 : Int32) = nI 65535 from rfl, e_in0 (by omega) ha, z_call_eq, if_pos rfl]
