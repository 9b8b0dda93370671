/-! the reference runs a law's steps -/
theorem m_push {M : zM} {e k n f x : Nat} {v : Int32} (hS : ST M) (hn : n < 260) : f_X12_comesTo_85 54 (nI e) (f_X12_comesTo_16 54 (nI e) f) (nI n) 0 (nI k) 70 (nI n) v M = f_X12_comesTo_16 54 (nI e) f (nI (n + 1)) 0 (nI k) (zu M.1 70 n v, M.2) := by
  rw [f_X12_comesTo_85, ln70, if_pos (by rw [z_ixN (by omega)]; omega), zl_eq, zl_eq, nI_1, nI_clamp (by omega)]
  rfl
theorem m_num {M : zM} {e k n f v : Nat} {cd : Nat → Int32} (hS : ST M) (h65 : M.1 65 = cd) (hk : k < e) (he : e ≤ 240) (hn : n < 260) (hc : cd k = nI v) (hv : v < 100000) : f_X12_comesTo_16 54 (nI e) (f + 1) (nI n) 0 (nI k) M = f_X12_comesTo_16 54 (nI e) f (nI (n + 1)) 0 (nI (k + 1)) (zu M.1 70 n (nI v), M.2) := by
  rw [m_step hS h65 hk he hc (by omega), show v / 1048576 = 0 by omega, show v % 1048576 = v by omega, if_pos (show nI 0 = 0 from rfl), f_X12_comesTo_63, (ST.a hS (o := 54) (k := 25) (a := 70) (by decide)), z_rd_eq, if_pos (show nI 0 = 0 from rfl)]
  exact m_push (x := 0) hS hn
theorem m_let {M : zM} {e k n f i : Nat} {cd : Nat → Int32} (hS : ST M) (h65 : M.1 65 = cd) (hk : k < e) (he : e ≤ 240) (hn : n < 260) (hc : cd k = nI (1048576 + i)) (hi : i < 8) : f_X12_comesTo_16 54 (nI e) (f + 1) (nI n) 0 (nI k) M = f_X12_comesTo_16 54 (nI e) f (nI (n + 1)) 0 (nI (k + 1)) (zu M.1 70 n (M.1 71 i), M.2) := by
  rw [m_step hS h65 hk he hc (by omega), show (1048576 + i) / 1048576 = 1 by omega, show (1048576 + i) % 1048576 = i by omega, if_neg (show ¬ nI 1 = 0 by decide), if_pos (show nI 1 = 1 from rfl), f_X12_comesTo_63, (ST.a hS (o := 54) (k := 25) (a := 70) (by decide)), z_rd_eq, if_neg (show ¬ nI 1 = 0 by decide), (ST.a hS (o := 54) (k := 26) (a := 71) (by decide)), z_rd_eq, ln71, if_pos (by rw [z_ixN (by omega)]; omega), nI_clamp (by omega)]
  exact m_push (x := 0) hS hn
theorem m_not {M : zM} {e k n f : Nat} {cd : Nat → Int32} (hS : ST M) (h65 : M.1 65 = cd) (hk : k < e) (he : e ≤ 240) (hn : n < 260) (hn1 : 1 ≤ n) (hc : cd k = nI (1048576 * 10)) : f_X12_comesTo_16 54 (nI e) (f + 1) (nI n) 0 (nI k) M = f_X12_comesTo_16 54 (nI e) f (nI n) 0 (nI (k + 1)) (zu M.1 70 (n - 1) (1 - M.1 70 (n - 1)), M.2) := by
  rw [m_step hS h65 hk he hc (by omega), show 1048576 * 10 / 1048576 = 10 by omega, if_neg (show ¬ nI 10 = 0 by decide), if_neg (show ¬ nI 10 = 1 by decide), if_pos (show nI 10 = 10 from rfl), (ST.a hS (o := 54) (k := 25) (a := 70) (by decide)), z_rd_eq, z_rd_eq, show (nI n - 1 : Int32) = nI (n - 1) from nI_sub (b := 1) hn1, ln70, if_pos (by rw [z_ixN (by omega)]; omega), if_pos (by rw [z_ixN (by omega)]; omega), zl_eq, nI_clamp (by omega)]
  rfl
theorem m_jmp {M : zM} {e k n f t o : Nat} {cd : Nat → Int32} (hS : ST M) (h65 : M.1 65 = cd) (hk : k < e) (he : e ≤ 240) (hn : n < 260) (hn1 : 1 ≤ n) (hc : cd k = nI (1048576 * (11 + o) + t)) (ht : t ≤ 240) (ho : o ≤ 1) : f_X12_comesTo_16 54 (nI e) (f + 1) (nI n) 0 (nI k) M = if M.1 70 (n - 1) = nI o then f_X12_comesTo_16 54 (nI e) f (nI n) 0 (nI t) M else f_X12_comesTo_16 54 (nI e) f (nI (n - 1)) 0 (nI (k + 1)) M := by
  have q : (nI n - 1 : Int32) = nI (n - 1) := nI_sub (b := 1) hn1
  rw [m_step hS h65 hk he hc (by omega)]
  rcases (show o = 0 ∨ o = 1 by omega) with rfl | rfl
  · rw [show (1048576 * (11 + 0) + t) / 1048576 = 11 by omega, show (1048576 * (11 + 0) + t) % 1048576 = t by omega, if_neg (show ¬ nI 11 = 0 by decide), if_neg (show ¬ nI 11 = 1 by decide), if_neg (show ¬ nI 11 = 10 by decide), if_pos (show nI 11 = 11 from rfl), f_X12_comesTo_135, (ST.a hS (o := 54) (k := 25) (a := 70) (by decide)), z_rd_eq, q, ln70, if_pos (by rw [z_ixN (by omega)]; omega), if_neg (show ¬ nI 11 = 12 by decide), f_X12_comesTo_155, nI_clamp (by omega), zl_eq, zl_eq, q, Int32.zero_add]
    rfl
  · rw [show (1048576 * (11 + 1) + t) / 1048576 = 12 by omega, show (1048576 * (11 + 1) + t) % 1048576 = t by omega, if_neg (show ¬ nI 12 = 0 by decide), if_neg (show ¬ nI 12 = 1 by decide), if_neg (show ¬ nI 12 = 10 by decide), if_neg (show ¬ nI 12 = 11 by decide), if_pos (show nI 12 = 12 from rfl), f_X12_comesTo_135, (ST.a hS (o := 54) (k := 25) (a := 70) (by decide)), z_rd_eq, q, ln70, if_pos (by rw [z_ixN (by omega)]; omega), if_pos (show nI 12 = 12 from rfl), f_X12_comesTo_155, nI_clamp (by omega), zl_eq, zl_eq, q, Int32.zero_add]
    rfl
theorem m_203 {M : zM} {e k n f o : Nat} (hS : ST M) (hn : n < 260) (hn1 : 1 ≤ n) (h1 : 2 ≤ o) (h2 : o ≤ 9) (hy : (o = 5 ∨ o = 6) → M.1 70 n ≠ 0) : f_X12_comesTo_203 54 (nI e) (f_X12_comesTo_16 54 (nI e) f) (nI n) 0 (nI k) (nI o) M = f_X12_comesTo_16 54 (nI e) f (nI n) 0 (nI k) (zu M.1 70 (n - 1) (rk o (M.1 70 (n - 1)) (M.1 70 n)), M.2) := by
  have q : (nI n - 1 : Int32) = nI (n - 1) := nI_sub (b := 1) hn1
  rw [f_X12_comesTo_203, (ST.a hS (o := 54) (k := 25) (a := 70) (by decide)), z_rd_eq, z_rd_eq, q, ln70, if_pos (by rw [z_ixN (by omega)]; omega), z_rd_eq, ln70, if_pos (by rw [z_ixN (by omega)]; omega), nI_clamp (by omega), nI_clamp (by omega), m_reckon h1 h2 hy, z_call_eq, if_pos (by rw [z_ixN (by omega)]; omega), zl_eq]
  rfl
theorem m_op {M : zM} {e k n f o : Nat} {cd : Nat → Int32} (hS : ST M) (h65 : M.1 65 = cd) (hk : k < e) (he : e ≤ 240) (hn : n < 260) (hn2 : 2 ≤ n) (hc : cd k = nI (1048576 * o)) (h1 : 2 ≤ o) (h2 : o ≤ 9) : f_X12_comesTo_16 54 (nI e) (f + 1) (nI n) 0 (nI k) M = if (o = 5 ∨ o = 6) ∧ M.1 70 (n - 1) = 0 then some (0, M) else f_X12_comesTo_16 54 (nI e) f (nI (n - 1)) 0 (nI (k + 1)) (zu M.1 70 (n - 2) (rk o (M.1 70 (n - 2)) (M.1 70 (n - 1))), M.2) := by
  have q : (nI n - 1 : Int32) = nI (n - 1) := nI_sub (b := 1) (by omega)
  have d : 1048576 * o / 1048576 = o := Nat.mul_div_cancel_left o (by omega)
  have g : ∀ i, i < 2 ^ 31 → i ≠ o → ¬ nI o = nI i := fun i hi hne h => hne ((nI_eq (by omega) hi).mp h).symm
  have e203 := fun hy => m_203 (M := M) (e := e) (k := k + 1) (n := n - 1) (f := f) (o := o) hS (by omega) (by omega) h1 h2 hy
  rw [show n - 1 - 1 = n - 2 by omega] at e203
  rw [m_step hS h65 hk he hc (by omega), d, if_neg (show ¬ nI o = (0 : Int32) from g 0 (by omega) (by omega)), if_neg (show ¬ nI o = (1 : Int32) from g 1 (by omega) (by omega)), if_neg (show ¬ nI o = (10 : Int32) from g 10 (by omega) (by omega)), if_neg (show ¬ nI o = (11 : Int32) from g 11 (by omega) (by omega)), if_neg (show ¬ nI o = (12 : Int32) from g 12 (by omega) (by omega)), zl_eq, q]
  have h192 : f_X12_comesTo_192 54 (nI e) (f_X12_comesTo_16 54 (nI e) f) (nI (n - 1)) 0 (nI (k + 1)) (nI o) M = if M.1 70 (n - 1) = 0 then some (0, M) else f_X12_comesTo_203 54 (nI e) (f_X12_comesTo_16 54 (nI e) f) (nI (n - 1)) 0 (nI (k + 1)) (nI o) M := by
    rw [f_X12_comesTo_192, (ST.a hS (o := 54) (k := 25) (a := 70) (by decide)), z_rd_eq, ln70, if_pos (by rw [z_ixN (by omega)]; omega), nI_clamp (by omega)]
  by_cases h56 : o = 5 ∨ o = 6
  · have : (if nI o = 5 then (f_X12_comesTo_192 54 (nI e) (f_X12_comesTo_16 54 (nI e) f) (nI (n - 1)) 0 (nI (k + 1)) (nI o) M) else (if nI o = 6 then (f_X12_comesTo_192 54 (nI e) (f_X12_comesTo_16 54 (nI e) f) (nI (n - 1)) 0 (nI (k + 1)) (nI o) M) else (f_X12_comesTo_203 54 (nI e) (f_X12_comesTo_16 54 (nI e) f) (nI (n - 1)) 0 (nI (k + 1)) (nI o) M))) = f_X12_comesTo_192 54 (nI e) (f_X12_comesTo_16 54 (nI e) f) (nI (n - 1)) 0 (nI (k + 1)) (nI o) M := by
      rcases h56 with rfl | rfl
      · rw [if_pos (by decide)]
      · rw [if_neg (by decide), if_pos (by decide)]
    rw [this, h192]
    by_cases z : M.1 70 (n - 1) = 0
    · rw [if_pos z, if_pos ⟨h56, z⟩]
    · rw [if_neg z, if_neg (fun h => z h.2)]
      exact e203 (fun _ => z)
  · rw [if_neg (show ¬ nI o = (5 : Int32) from g 5 (by omega) (by omega)), if_neg (show ¬ nI o = (6 : Int32) from g 6 (by omega) (by omega)), if_neg (fun h => h56 h.1)]
    exact e203 (fun h => absurd h h56)
theorem RM.mono {M : zM} {n m : Nat} {S : Nat → Int32} (h : RM M n S) (hm : m ≤ n) : RM M m S := fun j hj => h j (by omega)
theorem Fr.c {l : List Nat} {M M' : zM} (h : Fr l M M') {c : Nat} (hc : c ∉ l) : M'.1 c = M.1 c := h.1 c hc
theorem m_ev {cd fc sg va : Nat → Int32} {T : Nat → Nat} {e a : Nat} (he : e ≤ 240) (hT : ∀ k, a ≤ k → k < e → stC (sg k) (va k) (cd k) T e k) (hTe : T e = 1 ∨ T e = 100) : ∀ m k f g S (M : zM), a ≤ k → k ≤ e → e - k ≤ m → m < f → m < g → ST M → M.1 65 = cd → (∀ j, j < 8 → M.1 71 j = fc j) → RM M (hg (T k)) S → ∃ M', f_X12_comesTo_16 54 (nI e) f (nI (hg (T k))) 0 (nI k) M = some ((ev cd fc e g k (hg (T k)) S).getD 0, M') ∧ Fr [70] M M' := by
  intro m
  induction m with
  | zero =>
    intro k f g S M hak hke hm hf hg1 hS h65 h71 hRM
    obtain ⟨f, rfl⟩ : ∃ x, f = x + 1 := ⟨f - 1, by omega⟩
    obtain ⟨g, rfl⟩ : ∃ x, g = x + 1 := ⟨g - 1, by omega⟩
    obtain rfl : k = e := by omega
    have h1 : 0 < hg (T k) := by
      rcases hTe with h | h
      · rw [h, hg_o (by omega)]; omega
      · rw [h, hg_100]; omega
    refine ⟨M, ?_, Fr.rf⟩
    rw [f_X12_comesTo_16, if_pos (nI_le (Nat.le_refl _) (by omega)), (ST.a hS (o := 54) (k := 25) (a := 70) (by decide)), z_rd_eq, ln70, if_pos (by decide), ev_end (Nat.le_refl _)]
    show some (M.1 70 0, M) = some (S 0, M)
    rw [hRM 0 h1]
  | succ m ih =>
    intro k f g S M hak hke hm hf hg1 hS h65 h71 hRM
    by_cases hlt : k < e
    · obtain ⟨f, rfl⟩ : ∃ x, f = x + 1 := ⟨f - 1, by omega⟩
      obtain ⟨g, rfl⟩ : ∃ x, g = x + 1 := ⟨g - 1, by omega⟩
      have push : ∀ (w : Int32), T k < 15 → T (k + 1) = T k + 1 → f_X12_comesTo_16 54 (nI e) (f + 1) (nI (hg (T k))) 0 (nI k) M = f_X12_comesTo_16 54 (nI e) f (nI (T k + 1)) 0 (nI (k + 1)) (zu M.1 70 (T k) w, M.2) → ev cd fc e (g + 1) k (hg (T k)) S = ev cd fc e g (k + 1) (T k + 1) (va_up S (T k) w) → ∃ M', f_X12_comesTo_16 54 (nI e) (f + 1) (nI (hg (T k))) 0 (nI k) M = some ((ev cd fc e (g + 1) k (hg (T k)) S).getD 0, M') ∧ Fr [70] M M' := by
        intro w t1 t2 h1 h2
        have hh : hg (T (k + 1)) = T k + 1 := by rw [hg_o (by omega), t2]
        rw [hg_o (by omega)] at hRM
        have fr : Fr [70] M (zu M.1 70 (T k) w, M.2) := Fr.zu (by simp)
        obtain ⟨M', i1, i2⟩ := ih (k + 1) f g (va_up S (T k) w) (zu M.1 70 (T k) w, M.2) (by omega) (by omega) (by omega) (by omega) (by omega) (fr.st hS) ((fr.c (by decide)).trans h65) (fun j hj => by rw [fr.c (c := 71) (by decide)]; exact h71 j hj) (by
          rw [hh]; exact RM.set (fun j hj hne => hRM j (by omega)))
        rw [hh] at i1
        rw [h1, h2]
        exact ⟨M', i1, fr.tr i2⟩
      have oper : ∀ o, 2 ≤ o → o ≤ 9 → cd k = nI (1048576 * o) → 2 ≤ T k → T k ≤ 15 → hg (T (k + 1)) = T k - 1 → ∃ M', f_X12_comesTo_16 54 (nI e) (f + 1) (nI (hg (T k))) 0 (nI k) M = some ((ev cd fc e (g + 1) k (hg (T k)) S).getD 0, M') ∧ Fr [70] M M' := by
        intro o o1 o2 hc t1 t2 t3
        rw [hg_o (by omega)] at hRM
        rw [hg_o (by omega), m_op hS h65 hlt he (by omega) t1 hc o1 o2, ev_op hlt hc o1 o2, hRM (T k - 1) (by omega), hRM (T k - 2) (by omega)]
        by_cases z : (o = 5 ∨ o = 6) ∧ S (T k - 1) = 0
        · rw [if_pos z, if_pos z]; exact ⟨M, rfl, Fr.rf⟩
        · rw [if_neg z, if_neg z]
          have fr : Fr [70] M (zu M.1 70 (T k - 2) (rk o (S (T k - 2)) (S (T k - 1))), M.2) := Fr.zu (by simp)
          obtain ⟨M', i1, i2⟩ := ih (k + 1) f g (va_up S (T k - 2) (rk o (S (T k - 2)) (S (T k - 1)))) (zu M.1 70 (T k - 2) (rk o (S (T k - 2)) (S (T k - 1))), M.2) (by omega) (by omega) (by omega) (by omega) (by omega) (fr.st hS) ((fr.c (by decide)).trans h65) (fun j hj => by rw [fr.c (c := 71) (by decide)]; exact h71 j hj) (by
            rw [t3]; exact RM.set (fun j hj hne => hRM j (by omega)))
          rw [t3] at i1
          exact ⟨M', i1, fr.tr i2⟩
      rcases hT k hak hlt with (⟨t1, t2, hp⟩ | ⟨t1, t2, t3, i, hi, hs, hc⟩) | ⟨t1, t2, i, hi, hs, hc⟩ | ⟨t1, t2, hs, hc⟩ | ⟨t1, t2, t, ht1, ht2, t3, hv, hj⟩
      · rcases hp with ⟨hs, v, hv, hva, hc⟩ | ⟨i, hi, hs, hc⟩
        · exact push (nI v) t1 t2 (by rw [hg_o (by omega)]; exact m_num hS h65 hlt he (by omega) hc hv) (by rw [hg_o (by omega)]; exact ev_num hlt hc hv)
        · exact push (fc i) t1 t2 (by rw [hg_o (by omega), ← h71 i hi]; exact m_let hS h65 hlt he (by omega) hc hi) (by rw [hg_o (by omega)]; exact ev_let hlt hc hi)
      · exact oper (2 + i) (by omega) (by omega) hc t1 t2 (by rw [hg_o (by omega)]; omega)
      · exact oper (7 + i) (by omega) (by omega) hc (by omega) (by omega) (by rw [t2, hg_100]; omega)
      · have hh : hg (T (k + 1)) = 1 := by rw [t2]; rfl
        rw [t1, hg_100] at hRM ⊢
        rw [m_not hS h65 hlt he (by omega) (by omega) hc, ev_not hlt hc, hRM 0 (by omega)]
        have fr : Fr [70] M (zu M.1 70 0 (1 - S 0), M.2) := Fr.zu (by simp)
        obtain ⟨M', i1, i2⟩ := ih (k + 1) f g (va_up S 0 (1 - S 0)) (zu M.1 70 0 (1 - S 0), M.2) (by omega) (by omega) (by omega) (by omega) (by omega) (fr.st hS) ((fr.c (by decide)).trans h65) (fun j hj => by rw [fr.c (c := 71) (by decide)]; exact h71 j hj) (by
            rw [hh]; exact RM.set (fun j hj hne => hRM j (by omega)))
        rw [hh] at i1
        exact ⟨M', i1, fr.tr i2⟩
      · have h100 : hg (T t) = 1 := by rw [t3]; rfl
        have h0 : hg (T (k + 1)) = 0 := by rw [t2]; rfl
        rw [t1, hg_100] at hRM ⊢
        have go : ∀ o, o ≤ 1 → cd k = nI (1048576 * (11 + o) + t) → ev cd fc e (g + 1) k 1 S = (if S 0 = nI o then ev cd fc e g t 1 S else ev cd fc e g (k + 1) 0 S) → ∃ M', f_X12_comesTo_16 54 (nI e) (f + 1) (nI 1) 0 (nI k) M = some ((ev cd fc e (g + 1) k 1 S).getD 0, M') ∧ Fr [70] M M' := by
          intro o ho hc hev
          rw [m_jmp hS h65 hlt he (by omega) (by omega) hc (by omega) ho, hev, hRM 0 (by omega)]
          by_cases z : S 0 = nI o
          · rw [if_pos z, if_pos z]
            obtain ⟨M', i1, i2⟩ := ih t f g S M (by omega) (by omega) (by omega) (by omega) (by omega) hS h65 h71 (by rw [h100]; exact hRM)
            rw [h100] at i1
            exact ⟨M', i1, i2⟩
          · rw [if_neg z, if_neg z]
            obtain ⟨M', i1, i2⟩ := ih (k + 1) f g S M (by omega) (by omega) (by omega) (by omega) (by omega) hS h65 h71 (by rw [h0]; exact hRM.mono (by omega))
            rw [h0] at i1
            exact ⟨M', i1, i2⟩
        rcases hj with ⟨hs, hc⟩ | ⟨hs, hc⟩
        · exact go 0 (by omega) hc (ev_and hlt hc (by omega))
        · exact go 1 (by omega) hc (ev_or hlt hc (by omega))
    · obtain rfl : k = e := by omega
      exact ih k f g S M hak hke (by omega) (by omega) (by omega) hS h65 h71 hRM
/-- what a stretch of the law comes to; none: refused -/
def evR (cd fc : Nat → Int32) (a e : Nat) : Option Int32 := ev cd fc e 241 a 0 (fun _ => 0)
theorem m_comesTo {M : zM} {cd fc sg va : Nat → Int32} {T : Nat → Nat} {a e : Nat} (he : e ≤ 240) (hae : a ≤ e) (h0 : T a = 0) (hT : ∀ k, a ≤ k → k < e → stC (sg k) (va k) (cd k) T e k) (hTe : T e = 1 ∨ T e = 100) (hS : ST M) (h65 : M.1 65 = cd) (h71 : ∀ j, j < 8 → M.1 71 j = fc j) : ∃ M', f_X12_comesTo 54 (nI a) (nI e) M = some ((evR cd fc a e).getD 0, M') ∧ Fr [70] M M' := by
  rw [f_X12_comesTo, zl_eq, show (260 : Int32) = nI 260 from rfl, nI_div (by omega) (by omega) (by omega), nI_mul, show 260 * (a / 260) = 0 by omega]
  have := m_ev he hT hTe (e - a) a zF 241 (fun _ => 0) M (by omega) hae (Nat.le_refl _) (by unfold zF; omega) (by omega) hS h65 h71 (by rw [h0]; intro j hj; exact absurd hj (by unfold hg; simp))
  rw [h0] at this
  exact this
