/-! reading a law: class and reference in lockstep. Words -/
def enc (s v : Int32) : Int32 :=
  if s = 48 then v else if s = 38 then nI (1048576 * 11) + v else if s = 124 then nI (1048576 * 12) + v else if s = 33 then nI (1048576 * 10)
  else if s = 43 then nI (1048576 * 2) else if s = 45 then nI (1048576 * 3) else if s = 42 then nI (1048576 * 4) else if s = 47 then nI (1048576 * 5) else if s = 37 then nI (1048576 * 6)
  else if s = 60 then nI (1048576 * 7) else if s = 62 then nI (1048576 * 8) else if s = 61 then nI (1048576 * 9)
  else if s = 114 then nI 1048576 else if s = 115 then nI (1048576 + 1) else if s = 112 then nI (1048576 + 2) else if s = 102 then nI (1048576 + 3) else if s = 119 then nI (1048576 + 4) else if s = 103 then nI (1048576 + 5) else if s = 97 then nI (1048576 + 6) else nI (1048576 + 7)
theorem enc_let {i : Nat} (h : i < 8) (v : Int32) : enc (ltr i) v = nI (1048576 + i) := by
  rcases (show i = 0 ∨ i = 1 ∨ i = 2 ∨ i = 3 ∨ i = 4 ∨ i = 5 ∨ i = 6 ∨ i = 7 by omega) with rfl | rfl | rfl | rfl | rfl | rfl | rfl | rfl <;> rfl
theorem enc_ar {i : Nat} (h : i < 5) (v : Int32) : enc (ars i) v = nI (1048576 * (2 + i)) := by
  rcases (show i = 0 ∨ i = 1 ∨ i = 2 ∨ i = 3 ∨ i = 4 by omega) with rfl | rfl | rfl | rfl | rfl <;> rfl
theorem enc_cm {i : Nat} (h : i < 3) (v : Int32) : enc (cms i) v = nI (1048576 * (7 + i)) := by
  rcases (show i = 0 ∨ i = 1 ∨ i = 2 by omega) with rfl | rfl | rfl <;> rfl
theorem enc_num (v : Int32) : enc 48 v = v := rfl
theorem enc_and (v : Int32) : enc 38 v = nI (1048576 * 11) + v := rfl
theorem enc_or (v : Int32) : enc 124 v = nI (1048576 * 12) + v := rfl
theorem enc_not (v : Int32) : enc 33 v = nI (1048576 * 10) := rfl
/-- an expression's codes, from height h to h + 1 -/
def EXs (sg va : Nat → Int32) (h s s' : Nat) : Prop := s < s' ∧ ∃ T : Nat → Nat, T s = h ∧ T s' = h + 1 ∧ ∀ k, s ≤ k → k < s' → stE (sg k) (va k) (enc (sg k) (va k)) T k
def CXs (sg va : Nat → Int32) (s s' : Nat) : Prop := s < s' ∧ ∃ T : Nat → Nat, T s = 0 ∧ T s' = 100 ∧ ∀ k, s ≤ k → k < s' → stC (sg k) (va k) (enc (sg k) (va k)) T s' k
theorem EXs.cg {sg va sg' va' : Nat → Int32} {h s s' : Nat} (H : EXs sg va h s s') (e1 : ∀ k, s ≤ k → k < s' → sg' k = sg k) (e2 : ∀ k, s ≤ k → k < s' → va' k = va k) : EXs sg' va' h s s' := by
  obtain ⟨h1, T, t1, t2, t3⟩ := H
  exact ⟨h1, T, t1, t2, fun k a b => by rw [e1 k a b, e2 k a b]; exact t3 k a b⟩
theorem CXs.cg {sg va sg' va' : Nat → Int32} {s s' : Nat} (H : CXs sg va s s') (e1 : ∀ k, s ≤ k → k < s' → sg' k = sg k) (e2 : ∀ k, s ≤ k → k < s' → va' k = va k) : CXs sg' va' s s' := by
  obtain ⟨h1, T, t1, t2, t3⟩ := H
  exact ⟨h1, T, t1, t2, fun k a b => by rw [e1 k a b, e2 k a b]; exact t3 k a b⟩
theorem stE.T {s v c : Int32} {T T' : Nat → Nat} {k : Nat} (h : stE s v c T k) (e1 : T' k = T k) (e2 : T' (k + 1) = T (k + 1)) : stE s v c T' k := by
  unfold stE
  rw [e1, e2]
  exact h
theorem stC.T {s v c : Int32} {T T' : Nat → Nat} {k e e' : Nat} (h : stC s v c T e k) (hk : k < e) (he : e ≤ e') (e1 : ∀ j, k ≤ j → j ≤ e → T' j = T j) : stC s v c T' e' k := by
  rcases h with h | h | h | ⟨h1, h2, t, h3, h4, h5, h6⟩
  · exact Or.inl (h.T (e1 k (by omega) (by omega)) (e1 (k + 1) (by omega) (by omega)))
  · refine Or.inr (Or.inl ?_)
    rw [e1 k (by omega) (by omega), e1 (k + 1) (by omega) (by omega)]
    exact h
  · refine Or.inr (Or.inr (Or.inl ?_))
    rw [e1 k (by omega) (by omega), e1 (k + 1) (by omega) (by omega)]
    exact h
  · refine Or.inr (Or.inr (Or.inr ⟨?_, ?_, t, h3, by omega, ?_, h6⟩))
    · rw [e1 k (by omega) (by omega)]; exact h1
    · rw [e1 (k + 1) (by omega) (by omega)]; exact h2
    · rw [e1 t (by omega) (by omega)]; exact h5
theorem EXs.num {sg va : Nat → Int32} {h s n : Nat} (hh : h < 15) (h1 : sg s = 48) (h2 : va s = nI n) (hn : n < 100000) : EXs sg va h s (s + 1) := by
  refine ⟨by omega, fun k => if k = s then h else h + 1, if_pos rfl, if_neg (by omega), fun k a b => ?_⟩
  obtain rfl : k = s := by omega
  refine Or.inl ⟨?_, ?_, Or.inl ⟨h1, n, hn, h2, by rw [h1, enc_num, h2]⟩⟩
  · show (if k = k then h else h + 1) < 15
    rw [if_pos rfl]; exact hh
  · show (if k + 1 = k then h else h + 1) = (if k = k then h else h + 1) + 1
    rw [if_neg (by omega), if_pos rfl]
theorem EXs.let {sg va : Nat → Int32} {h s i : Nat} (hh : h < 15) (hi : i < 8) (h1 : sg s = ltr i) : EXs sg va h s (s + 1) := by
  refine ⟨by omega, fun k => if k = s then h else h + 1, if_pos rfl, if_neg (by omega), fun k a b => ?_⟩
  obtain rfl : k = s := by omega
  refine Or.inl ⟨?_, ?_, Or.inr ⟨i, hi, h1, by rw [h1, enc_let hi]⟩⟩
  · show (if k = k then h else h + 1) < 15
    rw [if_pos rfl]; exact hh
  · show (if k + 1 = k then h else h + 1) = (if k = k then h else h + 1) + 1
    rw [if_neg (by omega), if_pos rfl]
theorem EXs.op {sg va : Nat → Int32} {h s s1 s2 i : Nat} (a1 : EXs sg va h s s1) (a2 : EXs sg va (h + 1) s1 s2) (hh : h + 2 ≤ 15) (hi : i < 5) (h1 : sg s2 = ars i) : EXs sg va h s (s2 + 1) := by
  obtain ⟨l1, T1, t1, t2, t3⟩ := a1
  obtain ⟨l2, T2, u1, u2, u3⟩ := a2
  have p1 : ∀ k, k < s1 → (if k < s1 then T1 k else if k ≤ s2 then T2 k else h + 1) = T1 k := fun k hk => if_pos hk
  have p2 : ∀ k, s1 ≤ k → k ≤ s2 → (if k < s1 then T1 k else if k ≤ s2 then T2 k else h + 1) = T2 k := fun k hk hk2 => by rw [if_neg (by omega), if_pos hk2]
  refine ⟨by omega, fun k => if k < s1 then T1 k else if k ≤ s2 then T2 k else h + 1, (p1 s l1).trans t1, by show (if s2 + 1 < s1 then T1 (s2 + 1) else if s2 + 1 ≤ s2 then T2 (s2 + 1) else h + 1) = h + 1; rw [if_neg (by omega), if_neg (by omega)], fun k a b => ?_⟩
  by_cases c1 : k < s1
  · refine (t3 k a c1).T (p1 k c1) ?_
    by_cases c2 : k + 1 < s1
    · exact p1 _ c2
    · have e : k + 1 = s1 := by omega
      rw [e]
      exact (p2 s1 (by omega) (by omega)).trans (u1.trans t2.symm)
  · by_cases c2 : k < s2
    · exact (u3 k (by omega) c2).T (p2 k (by omega) (by omega)) (p2 _ (by omega) (by omega))
    · obtain rfl : k = s2 := by omega
      have q1 := p2 k (by omega) (by omega)
      refine Or.inr ⟨?_, ?_, ?_, i, hi, h1, by rw [h1, enc_ar hi]⟩
      · show 2 ≤ (if k < s1 then T1 k else if k ≤ k then T2 k else h + 1)
        rw [q1, u2]; omega
      · show (if k < s1 then T1 k else if k ≤ k then T2 k else h + 1) ≤ 15
        rw [q1, u2]; omega
      · show (if k + 1 < s1 then T1 (k + 1) else if k + 1 ≤ k then T2 (k + 1) else h + 1) + 1 = (if k < s1 then T1 k else if k ≤ k then T2 k else h + 1)
        rw [q1, u2, if_neg (by omega), if_neg (by omega)]
theorem CXs.cmp {sg va : Nat → Int32} {s s1 s2 i : Nat} (a1 : EXs sg va 0 s s1) (a2 : EXs sg va 1 s1 s2) (hi : i < 3) (h1 : sg s2 = cms i) : CXs sg va s (s2 + 1) := by
  obtain ⟨l1, T1, t1, t2, t3⟩ := a1
  obtain ⟨l2, T2, u1, u2, u3⟩ := a2
  have p1 : ∀ k, k < s1 → (if k < s1 then T1 k else if k ≤ s2 then T2 k else 100) = T1 k := fun k hk => if_pos hk
  have p2 : ∀ k, s1 ≤ k → k ≤ s2 → (if k < s1 then T1 k else if k ≤ s2 then T2 k else 100) = T2 k := fun k hk hk2 => by rw [if_neg (by omega), if_pos hk2]
  refine ⟨by omega, fun k => if k < s1 then T1 k else if k ≤ s2 then T2 k else 100, (p1 s l1).trans t1, by show (if s2 + 1 < s1 then T1 (s2 + 1) else if s2 + 1 ≤ s2 then T2 (s2 + 1) else 100) = 100; rw [if_neg (by omega), if_neg (by omega)], fun k a b => ?_⟩
  by_cases c1 : k < s1
  · refine Or.inl ((t3 k a c1).T (p1 k c1) ?_)
    by_cases c2 : k + 1 < s1
    · exact p1 _ c2
    · have e : k + 1 = s1 := by omega
      rw [e]
      exact (p2 s1 (by omega) (by omega)).trans (u1.trans t2.symm)
  · by_cases c2 : k < s2
    · exact Or.inl ((u3 k (by omega) c2).T (p2 k (by omega) (by omega)) (p2 _ (by omega) (by omega)))
    · obtain rfl : k = s2 := by omega
      have q1 := p2 k (by omega) (by omega)
      refine Or.inr (Or.inl ⟨?_, ?_, i, hi, h1, by rw [h1, enc_cm hi]⟩)
      · show (if k < s1 then T1 k else if k ≤ k then T2 k else 100) = 2
        rw [q1, u2]
      · show (if k + 1 < s1 then T1 (k + 1) else if k + 1 ≤ k then T2 (k + 1) else 100) = 100
        rw [if_neg (by omega), if_neg (by omega)]
theorem CXs.not {sg va : Nat → Int32} {s s1 : Nat} (a1 : CXs sg va s s1) (h1 : sg s1 = 33) : CXs sg va s (s1 + 1) := by
  obtain ⟨l1, T1, t1, t2, t3⟩ := a1
  have p1 : ∀ k, k ≤ s1 → (if k ≤ s1 then T1 k else 100) = T1 k := fun k hk => if_pos hk
  refine ⟨by omega, fun k => if k ≤ s1 then T1 k else 100, (p1 s (by omega)).trans t1, if_neg (by omega), fun k a b => ?_⟩
  by_cases c1 : k < s1
  · exact (t3 k a c1).T c1 (by omega) (fun j _ hj => p1 j hj)
  · obtain rfl : k = s1 := by omega
    refine Or.inr (Or.inr (Or.inl ⟨(p1 k (by omega)).trans t2, if_neg (by omega), h1, by rw [h1, enc_not]⟩))
theorem CXs.jmp {sg va : Nat → Int32} {s s1 s2 : Nat} (a1 : CXs sg va s s1) (a2 : CXs sg va (s1 + 1) s2) (h1 : sg s1 = 38 ∨ sg s1 = 124) (h2 : va s1 = nI s2) : CXs sg va s s2 := by
  obtain ⟨l1, T1, t1, t2, t3⟩ := a1
  obtain ⟨l2, T2, u1, u2, u3⟩ := a2
  have p1 : ∀ k, k ≤ s1 → (if k ≤ s1 then T1 k else T2 k) = T1 k := fun k hk => if_pos hk
  have p2 : ∀ k, s1 < k → (if k ≤ s1 then T1 k else T2 k) = T2 k := fun k hk => if_neg (by omega)
  refine ⟨by omega, fun k => if k ≤ s1 then T1 k else T2 k, (p1 s (by omega)).trans t1, (p2 s2 (by omega)).trans u2, fun k a b => ?_⟩
  by_cases c1 : k < s1
  · exact (t3 k a c1).T c1 (by omega) (fun j _ hj => p1 j hj)
  · by_cases c2 : k = s1
    · subst c2
      refine Or.inr (Or.inr (Or.inr ⟨(p1 k (by omega)).trans t2, (p2 (k + 1) (by omega)).trans u1, s2, b, by omega, (p2 s2 (by omega)).trans u2, h2, ?_⟩))
      rcases h1 with h1 | h1
      · exact Or.inl ⟨h1, by rw [h1, enc_and, h2, nI_add]⟩
      · exact Or.inr ⟨h1, by rw [h1, enc_or, h2, nI_add]⟩
    · exact (u3 k (by omega) b).T b (by omega) (fun j hj _ => p2 j (by omega))
