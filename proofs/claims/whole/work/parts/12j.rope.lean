/-! ropes: the class -/
def R4 (M : zM) (a : Nat) (g : Nat → Nat) : Prop := ∀ c, c < 4 → M.1 a c = nI (g c)
theorem R4.to {M M' : zM} {a : Nat} {g : Nat → Nat} (h : R4 M a g) (e : M'.1 a = M.1 a) : R4 M' a g := fun c hc => by rw [e]; exact h c hc
theorem R4.cg {M : zM} {a : Nat} {g g' : Nat → Nat} (h : R4 M a g) (e : ∀ c, c < 4 → g' c = g c) : R4 M a g' := fun c hc => by rw [e c hc]; exact h c hc
theorem R4.set {M : zM} {a k v : Nat} {g : Nat → Nat} (h : R4 M a g) : R4 (zu M.1 a k (nI v), M.2) a (va_up g k v) := by
  intro c hc
  show zu M.1 a k (nI v) a c = _
  by_cases e : c = k
  · rw [e, zu_same, va_eq]
  · rw [zu_ne _ _ _ e, va_ne e]; exact h c hc
theorem ln44 : z_ln SH 44 = 4 := by decide
theorem ln45 : z_ln SH 45 = 4 := by decide
theorem ln46 : z_ln SH 46 = 4 := by decide
theorem c_fill4_lp {a v : Nat} (la : z_ln SH a = 4) : ∀ m n i (M : zM), i + m = 4 → m < n → (∀ j, j < i → M.1 a j = nI v) → ∃ M', f_J7_fill_53178_5 a (nI v) n (nI i) (nI 4) M = some ((), M') ∧ Fr [a] M M' ∧ R4 M' a (fun _ => v) := by
  intro m
  induction m with
  | zero =>
    intro n i M hi hn h
    obtain ⟨n, rfl⟩ : ∃ m, n = m + 1 := ⟨n - 1, by omega⟩
    obtain rfl : i = 4 := by omega
    exact ⟨M, by rw [f_J7_fill_53178_5, if_pos (by decide)], Fr.rf, h⟩
  | succ m ih =>
    intro n i M hi hn h
    obtain ⟨n, rfl⟩ : ∃ m, n = m + 1 := ⟨n - 1, by omega⟩
    obtain ⟨M', h1, h2, h3⟩ := ih n (i + 1) (zu M.1 a i (nI v), M.2) (by omega) (by omega) (fun j hj => by
      show zu M.1 a i (nI v) a j = _
      by_cases e : j = i
      · rw [e, zu_same]
      · rw [zu_ne _ _ _ e]; exact h j (by omega))
    refine ⟨M', ?_, (Fr.zu (M := M) (c := a) (by simp)).tr h2, h3⟩
    rw [f_J7_fill_53178_5, if_neg (nI_ge (by omega) (by omega)), if_pos (by rw [z_ixN (by omega), la]; omega), zl_eq, nI_clamp (by omega), zl_eq, nI_1]
    exact h1
theorem c_fill4 {a v : Nat} (la : z_ln SH a = 4) (M : zM) : ∃ M', f_J7_fill_53178 a (nI v) M = some ((), M') ∧ Fr [a] M M' ∧ R4 M' a (fun _ => v) := by
  obtain ⟨M', h1, h2, h3⟩ := c_fill4_lp (v := v) la 4 zF 0 M (by omega) (by decide) (fun j hj => by omega)
  refine ⟨M', ?_, h2, h3⟩
  rw [f_J7_fill_53178, la, zl_eq]
  exact h1
theorem c_aside {M : zM} {l r : Nat → Nat} {c : Nat} (hS : ST M) (hl : R4 M 45 l) (hr : R4 M 46 r) (hc : c < 4) (b1 : l c ≤ FR) (b2 : r c ≤ FR) : f_X7_aside 43 (nI c) M = some (nI (min (l c) (r c)), M) := by
  have hF : FR = 1000000 := rfl
  rw [f_X7_aside, (ST.a hS (o := 43) (k := 1) (a := 45) (by decide)), z_rd_eq, ln45, if_pos (by rw [z_ixN (by omega)]; omega), (ST.a hS (o := 43) (k := 2) (a := 46) (by decide)), z_rd_eq, ln46, if_pos (by rw [z_ixN (by omega)]; omega), nI_clamp (by omega), hl c hc, hr c hc, nI_min (by omega) (by omega)]
theorem c_costAt {M : zM} {N : Nat → Nat} {f c b x : Nat} (hS : ST M) (hC : CS M 3 N) (hR : NR N) (hf : f < 6) (hc : c < 4) (hb : b ≤ 99999) (hx : x ≤ 2000000) : f_X7_costAt 3 (nI f) (nI c) (nI b) (nI x) M = some (nI (cA N b (4 * f + c) x), M) := by
  have hF : FR = 1000000 := rfl
  have hg := hR.2.2.2.2.1 (f * 4 + c) (by omega)
  have c3 : M.1 6 (f * 4 + c) = nI (N (96 + (f * 4 + c))) := hC.2.2.1 (f * 4 + c) (by omega)
  rw [f_X7_costAt, (ST.a hS (o := 3) (k := 2) (a := 6) (by decide)), z_rd_eq, ln6, show (nI f * 4 + nI c : Int32) = nI (f * 4 + c) by simp only [lit, nI_mul, nI_add], if_pos (by rw [z_ixN (by omega)]; omega), nI_clamp (by omega), c3]
  unfold cA bar
  rw [show 4 * f + c = f * 4 + c by omega]
  by_cases h : b < N (96 + (f * 4 + c))
  · rw [if_neg (nI_ge h (by omega)), f_X7_costAt_19, if_neg (by decide), if_pos (by simp [h])]
    rfl
  · rw [if_pos ((nI_leI (by omega) (by omega)).mpr (by omega)), f_X7_costAt_19, if_pos rfl, if_neg (by simp [h]), nI_1, show (1000000 : Int32) = nI FR from rfl, nI_min (by omega) (by omega)]
theorem c_down_lp {N : Nat → Nat} {f b : Nat} {t : (Nat → Nat) × (Nat → Nat) × (Nat → Nat)} (hR : NR N) (hf : f < 6) (hb : b ≤ 99999) (t1 : ∀ c, c < 4 → t.1 c ≤ FR) (t2 : ∀ c, c < 4 → t.2.1 c ≤ FR) (t3 : ∀ c, c < 4 → t.2.2 c ≤ FR) : ∀ m n c (M : zM), c + m = 4 → m < n → ST M → CS M 3 N → R4 M 44 (fun k => if k < c then dr N b f t k else t.1 k) → R4 M 45 t.2.1 → R4 M 46 t.2.2 → ∃ M', f_X7_goDown_3 43 3 (nI f) (nI b) n (nI c) M = some ((), M') ∧ Fr [44] M M' ∧ R4 M' 44 (dr N b f t) := by
  have hF : FR = 1000000 := rfl
  intro m
  induction m with
  | zero =>
    intro n c M hc hn hS hC h1 h2 h3
    obtain ⟨n, rfl⟩ : ∃ m, n = m + 1 := ⟨n - 1, by omega⟩
    obtain rfl : c = 4 := by omega
    exact ⟨M, by rw [f_X7_goDown_3, if_pos (by decide)], Fr.rf, h1.cg (fun k hk => by rw [if_pos hk])⟩
  | succ m ih =>
    intro n c M hc hn hS hC h1 h2 h3
    obtain ⟨n, rfl⟩ : ∃ m, n = m + 1 := ⟨n - 1, by omega⟩
    have b1 := t1 c (by omega)
    have b2 := t2 c (by omega)
    have b3 := t3 c (by omega)
    have e1 : M.1 44 c = nI (t.1 c) := by rw [show M.1 44 c = nI (if c < c then dr N b f t c else t.1 c) from h1 c (by omega), if_neg (by omega)]
    have f1 : Fr [44] M (zu M.1 44 c (nI (dr N b f t c)), M.2) := Fr.zu (by simp)
    obtain ⟨M', i1, i2, i3⟩ := ih n (c + 1) (zu M.1 44 c (nI (dr N b f t c)), M.2) (by omega) (by omega) (f1.st hS) (hC.to (fun d q1 q2 => f1.1 d (by simp; omega))) ((R4.set h1).cg (fun k _ => by
      by_cases e : k = c
      · rw [e, va_eq, if_pos (by omega)]
      · rw [va_ne e]
        by_cases z : k < c
        · rw [if_pos z, if_pos (by omega)]
        · rw [if_neg z, if_neg (by omega)])) (h2.to (f1.1 45 (by decide))) (h3.to (f1.1 46 (by decide)))
    refine ⟨M', ?_, f1.tr i2, i3⟩
    rw [f_X7_goDown_3, if_neg (show ¬ (4 : Int32) ≤ nI c from nI_ge (b := 4) (by omega) (by omega)), (ST.a hS (o := 43) (k := 0) (a := 44) (by decide)), z_rd_eq, z_rd_eq, ln44, if_pos (by rw [z_ixN (by omega)]; omega), c_aside hS h2 h3 (by omega) b2 b3, z_call_eq, nI_clamp (by omega), e1, show (100 : Int32) = nI 100 from rfl, nI_add, nI_min (by omega) (by omega), c_costAt hS hC hR hf (by omega) hb (by omega), z_call_eq, if_pos (by rw [z_ixN (by omega)]; omega), zl_eq, zl_eq, nI_1]
    exact i1
theorem lr_le {N : Nat → Nat} {b f : Nat} {d : Nat → Nat} (i : Nat) : lr N b f d i ≤ FR := by
  cases i with
  | zero => exact Nat.le_refl _
  | succ i => exact cA_le.1
theorem rr_le {N : Nat → Nat} {b f : Nat} {d : Nat → Nat} (i : Nat) : rr N b f d i ≤ FR := by
  cases i with
  | zero => exact Nat.le_refl _
  | succ i => exact cA_le.1
theorem c_left_lp {N d g : Nat → Nat} {f b : Nat} (hR : NR N) (hf : f < 6) (hb : b ≤ 99999) (t1 : ∀ c, c < 4 → d c ≤ FR) : ∀ m n i (M : zM), i + m = 3 → m < n → ST M → CS M 3 N → R4 M 44 d → R4 M 45 (fun k => if 3 - i ≤ k then lr N b f d (3 - k) else g k) → ∃ M', f_X7_goLeft_11 43 3 (nI f) (nI b) n (nI m - 1) M = some ((), M') ∧ Fr [45] M M' ∧ R4 M' 45 (fun k => lr N b f d (3 - k)) := by
  have hF : FR = 1000000 := rfl
  intro m
  induction m with
  | zero =>
    intro n i M hi hn hS hC h1 h2
    obtain ⟨n, rfl⟩ : ∃ m, n = m + 1 := ⟨n - 1, by omega⟩
    obtain rfl : i = 3 := by omega
    exact ⟨M, by rw [f_X7_goLeft_11, if_pos (by decide)], Fr.rf, h2.cg (fun k hk => by rw [if_pos (by omega)])⟩
  | succ m ih =>
    intro n i M hi hn hS hC h1 h2
    obtain ⟨n, rfl⟩ : ∃ m, n = m + 1 := ⟨n - 1, by omega⟩
    -- column m = 2 - i
    have hm : m = 2 - i := by omega
    have b1 := t1 (m + 1) (by omega)
    have b2 := lr_le (N := N) (b := b) (f := f) (d := d) i
    have e1 : M.1 44 (m + 1) = nI (d (m + 1)) := h1 (m + 1) (by omega)
    have e2 : M.1 45 (m + 1) = nI (lr N b f d i) := by
      rw [show M.1 45 (m + 1) = nI (if 3 - i ≤ m + 1 then lr N b f d (3 - (m + 1)) else g (m + 1)) from h2 (m + 1) (by omega), if_pos (by omega), show 3 - (m + 1) = i by omega]
    have hv : cA N b (4 * f + m) (min (d (m + 1) + 100) (lr N b f d i)) = lr N b f d (i + 1) := by
      show _ = cA N b (4 * f + (2 - i)) (min (d (3 - i) + 100) (lr N b f d i))
      rw [← hm, show 3 - i = m + 1 by omega]
    have f1 : Fr [45] M (zu M.1 45 m (nI (lr N b f d (i + 1))), M.2) := Fr.zu (by simp)
    obtain ⟨M', i1, i2, i3⟩ := ih n (i + 1) (zu M.1 45 m (nI (lr N b f d (i + 1))), M.2) (by omega) (by omega) (f1.st hS) (hC.to (fun d q1 q2 => f1.1 d (by simp; omega))) (h1.to (f1.1 44 (by decide))) ((R4.set h2).cg (fun k _ => by
      by_cases e : k = m
      · rw [e, va_eq, if_pos (by omega), show 3 - m = i + 1 by omega]
      · rw [va_ne e]
        by_cases z : 3 - i ≤ k
        · rw [if_pos z, if_pos (by omega)]
        · rw [if_neg z, if_neg (by omega)]))
    refine ⟨M', ?_, f1.tr i2, i3⟩
    rw [f_X7_goLeft_11, show nI (m + 1) - 1 = nI m from nI_sub (b := 1) (by omega), if_neg (nI_pos (by omega)), (ST.a hS (o := 43) (k := 1) (a := 45) (by decide)), z_rd_eq, (ST.a hS (o := 43) (k := 0) (a := 44) (by decide)), z_rd_eq, ln44, nI_1, if_pos (by rw [z_ixN (by omega)]; omega), z_rd_eq, ln45, if_pos (by rw [z_ixN (by omega)]; omega), nI_clamp (by omega), e1, e2, show (100 : Int32) = nI 100 from rfl, nI_add, nI_min (by omega) (by omega), c_costAt hS hC hR hf (by omega) hb (by omega), z_call_eq, hv, if_pos (by rw [z_ixN (by omega)]; omega), zl_eq, nI_clamp (by omega), zl_eq]
    rw [show nI m + -1 = nI m - 1 from (Int32.sub_eq_add_neg _ _).symm]
    exact i1
theorem c_right_lp {N d g : Nat → Nat} {f b : Nat} (hR : NR N) (hf : f < 6) (hb : b ≤ 99999) (t1 : ∀ c, c < 4 → d c ≤ FR) : ∀ m n c (M : zM), c + m = 3 → m < n → ST M → CS M 3 N → R4 M 44 d → R4 M 46 (fun k => if k ≤ c then rr N b f d k else g k) → ∃ M', f_X7_goRight_11 43 3 (nI f) (nI b) n (nI (c + 1)) M = some ((), M') ∧ Fr [46] M M' ∧ R4 M' 46 (rr N b f d) := by
  have hF : FR = 1000000 := rfl
  intro m
  induction m with
  | zero =>
    intro n c M hc hn hS hC h1 h2
    obtain ⟨n, rfl⟩ : ∃ m, n = m + 1 := ⟨n - 1, by omega⟩
    obtain rfl : c = 3 := by omega
    exact ⟨M, by rw [f_X7_goRight_11, if_pos (by decide)], Fr.rf, h2.cg (fun k hk => by rw [if_pos (by omega)])⟩
  | succ m ih =>
    intro n c M hc hn hS hC h1 h2
    obtain ⟨n, rfl⟩ : ∃ m, n = m + 1 := ⟨n - 1, by omega⟩
    have b1 := t1 c (by omega)
    have b2 := rr_le (N := N) (b := b) (f := f) (d := d) c
    have e1 : M.1 44 c = nI (d c) := h1 c (by omega)
    have e2 : M.1 46 c = nI (rr N b f d c) := by rw [show M.1 46 c = nI (if c ≤ c then rr N b f d c else g c) from h2 c (by omega), if_pos (by omega)]
    have hv : cA N b (4 * f + (c + 1)) (min (d c + 100) (rr N b f d c)) = rr N b f d (c + 1) := rfl
    have f1 : Fr [46] M (zu M.1 46 (c + 1) (nI (rr N b f d (c + 1))), M.2) := Fr.zu (by simp)
    obtain ⟨M', i1, i2, i3⟩ := ih n (c + 1) (zu M.1 46 (c + 1) (nI (rr N b f d (c + 1))), M.2) (by omega) (by omega) (f1.st hS) (hC.to (fun d q1 q2 => f1.1 d (by simp; omega))) (h1.to (f1.1 44 (by decide))) ((R4.set h2).cg (fun k _ => by
      by_cases e : k = c + 1
      · rw [e, va_eq, if_pos (by omega)]
      · rw [va_ne e]
        by_cases z : k ≤ c
        · rw [if_pos z, if_pos (by omega)]
        · rw [if_neg z, if_neg (by omega)]))
    refine ⟨M', ?_, f1.tr i2, i3⟩
    rw [f_X7_goRight_11, if_neg (show ¬ (4 : Int32) ≤ nI (c + 1) from nI_ge (b := 4) (by omega) (by omega)), (ST.a hS (o := 43) (k := 2) (a := 46) (by decide)), z_rd_eq, (ST.a hS (o := 43) (k := 0) (a := 44) (by decide)), z_rd_eq, ln44, show nI (c + 1) - 1 = nI c from nI_sub (b := 1) (by omega), if_pos (by rw [z_ixN (by omega)]; omega), z_rd_eq, ln46, if_pos (by rw [z_ixN (by omega)]; omega), nI_clamp (by omega), e1, e2, show (100 : Int32) = nI 100 from rfl, nI_add, nI_min (by omega) (by omega), c_costAt hS hC hR hf (by omega) hb (by omega), z_call_eq, hv, if_pos (by rw [z_ixN (by omega)]; omega), zl_eq, nI_clamp (by omega), zl_eq, nI_1]
    exact i1
theorem rws_le {N : Nat → Nat} {b : Nat} : ∀ j c, (rws N b j).1 c ≤ FR ∧ (rws N b j).2.1 c ≤ FR ∧ (rws N b j).2.2 c ≤ FR := by
  intro j c
  cases j with
  | zero => exact ⟨Nat.zero_le _, Nat.le_refl _, Nat.le_refl _⟩
  | succ j => exact ⟨cA_le.1, lr_le _, rr_le _⟩
theorem c_let_lp {N : Nat → Nat} {r b w : Nat} (hR : NR N) (hr : r < 24) (hb : b ≤ 99999) (hw : w ≤ 1) : ∀ m n j (M : zM), j + m = 6 - r / 4 → m < n → ST M → CS M 3 N → R4 M 44 (rws N b j).1 → R4 M 45 (rws N b j).2.1 → R4 M 46 (rws N b j).2.2 → ∃ M', f_X7_let_29 43 3 (nI r) (nI b) (nI w) n (nI (6 - j) - 1) M = some (if min (Dd N b r) (min (Ld N b r) (Rd N b r)) < FR then nI (if w = 0 then min (Dd N b r) (min (Ld N b r) (Rd N b r)) / 100 else min (Dd N b r) (min (Ld N b r) (Rd N b r)) % 100) else -2, M') ∧ Fr [44, 45, 46] M M' := by
  have hF : FR = 1000000 := rfl
  intro m
  induction m with
  | zero =>
    intro n j M hj hn hS hC h1 h2 h3
    obtain ⟨n, rfl⟩ : ∃ m, n = m + 1 := ⟨n - 1, by omega⟩
    have hj' : 6 - r / 4 = j := by omega
    refine ⟨M, ?_, Fr.rf⟩
    obtain ⟨b1, b2, b3⟩ := rws_le (N := N) (b := b) j (r % 4)
    have e73 : f_X7_let_73 43 (nI r) (nI w) M = some (if min (Dd N b r) (min (Ld N b r) (Rd N b r)) < FR then nI (if w = 0 then min (Dd N b r) (min (Ld N b r) (Rd N b r)) / 100 else min (Dd N b r) (min (Ld N b r) (Rd N b r)) % 100) else -2, M) := by
      unfold Dd Ld Rd
      rw [hj', f_X7_let_73, (ST.a hS (o := 43) (k := 0) (a := 44) (by decide)), z_rd_eq, f_X11_columnOf, z_call_eq, rem4 (by omega), ln44, if_pos (by rw [z_ixN (by omega)]; omega), f_X11_columnOf, z_call_eq, rem4 (by omega), c_aside hS h2 h3 (by omega) b2 b3, z_call_eq, nI_clamp (by omega), h1 (r % 4) (by omega), nI_min (by omega) (by omega), zl_eq]
      by_cases q : min ((rws N b j).1 (r % 4)) (min ((rws N b j).2.1 (r % 4)) ((rws N b j).2.2 (r % 4))) < FR
      · rw [if_pos (show nI (min ((rws N b j).1 (r % 4)) (min ((rws N b j).2.1 (r % 4)) ((rws N b j).2.2 (r % 4)))) < (1000000 : Int32) from (nI_ltI (b := 1000000) (by omega) (by omega)).mpr q), if_pos q]
        rcases (show w = 0 ∨ w = 1 by omega) with rfl | rfl
        · rw [if_pos (show nI 0 = 0 from rfl), if_pos rfl, show (100 : Int32) = nI 100 from rfl, nI_div (by omega) (by omega) (by omega)]
        · rw [if_neg (by decide), if_neg (by decide), show (100 : Int32) = nI 100 from rfl, rem_nI (by omega) (by omega) (by omega)]
      · rw [if_neg (show ¬ nI (min ((rws N b j).1 (r % 4)) (min ((rws N b j).2.1 (r % 4)) ((rws N b j).2.2 (r % 4)))) < (1000000 : Int32) from fun z => q ((nI_ltI (b := 1000000) (by omega) (by omega)).mp z)), if_neg q]
    rw [f_X7_let_29]
    by_cases q : j = 6
    · rw [q, if_pos (by decide)]
      exact e73
    · rw [show nI (6 - j) - 1 = nI (5 - j) from (nI_sub (b := 1) (by omega)).trans (by rw [show 6 - j - 1 = 5 - j by omega]), if_neg (nI_pos (by omega)), f_X11_floorOf, z_call_eq, div4 (by omega), if_pos ((nI_ltI (by omega) (by omega)).mpr (by omega))]
      exact e73
  | succ m ih =>
    intro n j M hj hn hS hC h1 h2 h3
    obtain ⟨n, rfl⟩ : ∃ m, n = m + 1 := ⟨n - 1, by omega⟩
    have hle := rws_le (N := N) (b := b) j
    have hle2 := rws_le (N := N) (b := b) (j + 1)
    obtain ⟨M1, d1, d2, d3⟩ := c_down_lp (t := rws N b j) hR (show 5 - j < 6 by omega) hb (fun c _ => (hle c).1) (fun c _ => (hle c).2.1) (fun c _ => (hle c).2.2) 4 zF 0 M (by omega) (by unfold zF; omega) hS hC (h1.cg (fun k _ => by rw [if_neg (by omega)])) h2 h3
    have s1 := d2.st hS
    have cs1 := hC.to (M' := M1) (fun d q1 q2 => d2.1 d (by simp; omega))
    have f2 : Fr [45] M1 (zu M1.1 45 3 (nI FR), M1.2) := Fr.zu (by simp)
    obtain ⟨M2, l1, l2, l3⟩ := c_left_lp (N := N) (d := dr N b (5 - j) (rws N b j)) (g := (rws N b j).2.1) (f := 5 - j) (b := b) hR (by omega) hb (fun c _ => cA_le.1) 3 zF 0 (zu M1.1 45 3 (nI FR), M1.2) (by omega) (by unfold zF; omega) (f2.st s1) (cs1.to (fun d q1 q2 => f2.1 d (by simp; omega))) (d3.to (f2.1 44 (by decide))) ((R4.set (h2.to (d2.1 45 (by decide)))).cg (fun k hk => by
      by_cases e : k = 3
      · rw [e, va_eq, if_pos (by omega)]; rfl
      · rw [va_ne e, if_neg (by omega)]))
    have f12 : Fr [44, 45] M M2 := ((d2.mono (by decide)).tr (f2.mono (by decide))).tr (l2.mono (by decide))
    have s2 := f12.st hS
    have cs2 := hC.to (M' := M2) (fun d q1 q2 => f12.1 d (by simp; omega))
    have d3' : R4 M2 44 (dr N b (5 - j) (rws N b j)) := (d3.to (f2.1 44 (by decide))).to (l2.1 44 (by decide))
    have h3' : R4 M2 46 (rws N b j).2.2 := h3.to (f12.1 46 (by decide))
    have f3 : Fr [46] M2 (zu M2.1 46 0 (nI FR), M2.2) := Fr.zu (by simp)
    obtain ⟨M3, r1, r2, r3⟩ := c_right_lp (N := N) (d := dr N b (5 - j) (rws N b j)) (g := (rws N b j).2.2) (f := 5 - j) (b := b) hR (by omega) hb (fun c _ => cA_le.1) 3 zF 0 (zu M2.1 46 0 (nI FR), M2.2) (by omega) (by unfold zF; omega) (f3.st s2) (cs2.to (fun d q1 q2 => f3.1 d (by simp; omega))) (d3'.to (f3.1 44 (by decide))) ((R4.set h3').cg (fun k hk => by
      by_cases e : k = 0
      · rw [e, va_eq, if_pos (by omega)]; rfl
      · rw [va_ne e, if_neg (by omega)]))
    have f13 : Fr [44, 45, 46] M M3 := ((f12.mono (by decide)).tr (f3.mono (by decide))).tr (r2.mono (by decide))
    obtain ⟨M4, i1, i2⟩ := ih n (j + 1) M3 (by omega) (by omega) (f13.st hS) (hC.to (fun d q1 q2 => f13.1 d (by simp; omega))) ((d3'.to (f3.1 44 (by decide))).to (r2.1 44 (by decide))) ((l3.to (f3.1 45 (by decide))).to (r2.1 45 (by decide))) r3
    refine ⟨M4, ?_, f13.tr i2⟩
    rw [f_X7_let_29, show nI (6 - j) - 1 = nI (5 - j) from (nI_sub (b := 1) (by omega)).trans (by rw [show 6 - j - 1 = 5 - j by omega]), if_neg (nI_pos (by omega)), f_X11_floorOf, z_call_eq, div4 (by omega), if_neg (nI_nlt (by omega) (by omega)), f_X7_goDown, show f_X7_goDown_3 43 3 (nI (5 - j)) (nI b) zF 0 M = some ((), M1) from d1, z_call_eq, f_X7_goLeft, (ST.a s1 (o := 43) (k := 1) (a := 45) (by decide)), z_rd_eq, ln45, if_pos (by decide), zl_eq, show f_X7_goLeft_11 43 3 (nI (5 - j)) (nI b) zF 2 (zu M1.1 45 (3 : Int32).toNatClampNeg 1000000, M1.2) = some ((), M2) from l1, z_call_eq, f_X7_goRight, (ST.a s2 (o := 43) (k := 2) (a := 46) (by decide)), z_rd_eq, ln46, if_pos (by decide), zl_eq, show f_X7_goRight_11 43 3 (nI (5 - j)) (nI b) zF 1 (zu M2.1 46 (0 : Int32).toNatClampNeg 1000000, M2.2) = some ((), M3) from r1, z_call_eq, zl_eq]
    rw [show nI (5 - j) + -1 = nI (6 - (j + 1)) - 1 from by rw [show 6 - (j + 1) = 5 - j by omega]; exact (Int32.sub_eq_add_neg _ _).symm]
    exact i1
theorem c_let {M : zM} {N : Nat → Nat} {r b w : Nat} (hS : ST M) (hC : CS M 3 N) (hR : NR N) (hr : r < 24) (hb : b ≤ 99999) (hw : w ≤ 1) : ∃ M', f_X7_let 43 3 (nI r) (nI b) (nI w) M = some (if min (Dd N b r) (min (Ld N b r) (Rd N b r)) < FR then nI (if w = 0 then min (Dd N b r) (min (Ld N b r) (Rd N b r)) / 100 else min (Dd N b r) (min (Ld N b r) (Rd N b r)) % 100) else -2, M') ∧ Fr [44, 45, 46] M M' := by
  obtain ⟨M1, a1, a2, a3⟩ := c_fill4 (a := 44) (v := 0) ln44 M
  have s1 := a2.st hS
  obtain ⟨M2, b1, b2, b3⟩ := c_fill4 (a := 45) (v := FR) ln45 M1
  have s2 := b2.st s1
  obtain ⟨M3, c1, c2, c3⟩ := c_fill4 (a := 46) (v := FR) ln46 M2
  have s3 := c2.st s2
  have f13 : Fr [44, 45, 46] M M3 := ((a2.mono (by decide)).tr (b2.mono (by decide))).tr (c2.mono (by decide))
  obtain ⟨M4, i1, i2⟩ := c_let_lp (w := w) hR hr hb hw (6 - r / 4) zF 0 M3 (by omega) (by unfold zF; omega) s3 (hC.to (fun d q1 q2 => f13.1 d (by simp; omega))) ((a3.to (b2.1 44 (by decide))).to (c2.1 44 (by decide))) (b3.to (c2.1 45 (by decide))) c3
  refine ⟨M4, ?_, f13.tr i2⟩
  rw [f_X7_let, (ST.a hS (o := 43) (k := 0) (a := 44) (by decide)), z_rd_eq, show f_J7_fill_53178 44 0 M = some ((), M1) from a1, z_call_eq, (ST.a s1 (o := 43) (k := 1) (a := 45) (by decide)), z_rd_eq, show f_J7_fill_53178 45 1000000 M1 = some ((), M2) from b1, z_call_eq, (ST.a s2 (o := 43) (k := 2) (a := 46) (by decide)), z_rd_eq, show f_J7_fill_53178 46 1000000 M2 = some ((), M3) from c1, z_call_eq]
  exact i1
