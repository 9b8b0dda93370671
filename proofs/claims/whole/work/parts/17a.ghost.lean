/-! hours: the ghost, and single changes -/
theorem CS.sin {M : zM} {o j s : Nat} {N : Nat → Nat} (hC : CS M o N) (hj : j < 24) : CS (zu M.1 (o + 1) j (nI (s)), M.2) o (va_up N (24 + j) s) := by
  refine hC.one (fun r hr => ?_) (fun r hr => ?_) (fun r hr => ?_) (fun r hr => ?_) (fun r hr => ?_) ?_ ?_ ?_ ?_ ?_
  · by_cases e : r = j
    · rw [if_pos ⟨rfl, e⟩, e, va_eq]
    · rw [if_neg (by omega), va_ne (by omega)]
  · rw [if_neg (by omega), va_ne (by omega)]
  · rw [if_neg (by omega), va_ne (by omega)]
  · rw [if_neg (by omega), va_ne (by omega)]
  · rw [if_neg (by omega), g_sum_congr (N := N) (fun k hk => va_ne (by omega))]
  · rw [if_neg (by omega), g_bits_congr (N := N) (fun k hk => va_ne (by omega))]
  · rw [if_neg (by omega), g_bits_congr (N := N) (fun k hk => va_ne (by omega))]
  · rw [if_neg (by omega), va_ne (by omega)]
  · rw [if_neg (by omega), va_ne (by omega)]
  · rw [if_neg (by omega), va_ne (by omega)]
theorem CS.gre {M : zM} {o j s : Nat} {N : Nat → Nat} (hC : CS M o N) (hj : j < 24) : CS (zu M.1 (o + 3) j (nI (s)), M.2) o (va_up N (96 + j) s) := by
  refine hC.one (fun r hr => ?_) (fun r hr => ?_) (fun r hr => ?_) (fun r hr => ?_) (fun r hr => ?_) ?_ ?_ ?_ ?_ ?_
  · rw [if_neg (by omega), va_ne (by omega)]
  · rw [if_neg (by omega), va_ne (by omega)]
  · by_cases e : r = j
    · rw [if_pos ⟨rfl, e⟩, e, va_eq]
    · rw [if_neg (by omega), va_ne (by omega)]
  · rw [if_neg (by omega), va_ne (by omega)]
  · rw [if_neg (by omega), g_sum_congr (N := N) (fun k hk => va_ne (by omega))]
  · rw [if_neg (by omega), g_bits_congr (N := N) (fun k hk => va_ne (by omega))]
  · rw [if_neg (by omega), g_bits_congr (N := N) (fun k hk => va_ne (by omega))]
  · rw [if_neg (by omega), va_ne (by omega)]
  · rw [if_neg (by omega), va_ne (by omega)]
  · rw [if_neg (by omega), va_ne (by omega)]
theorem CS.cow {M : zM} {o s : Nat} {N : Nat → Nat} (hC : CS M o N) : CS (zu M.1 o 7 (nI (s)), M.2) o (va_up N 696 s) := by
  refine hC.one (fun r hr => ?_) (fun r hr => ?_) (fun r hr => ?_) (fun r hr => ?_) (fun r hr => ?_) ?_ ?_ ?_ ?_ ?_
  · rw [if_neg (by omega), va_ne (by omega)]
  · rw [if_neg (by omega), va_ne (by omega)]
  · rw [if_neg (by omega), va_ne (by omega)]
  · rw [if_neg (by omega), va_ne (by omega)]
  · rw [if_neg (by omega), g_sum_congr (N := N) (fun k hk => va_ne (by omega))]
  · rw [if_neg (by omega), g_bits_congr (N := N) (fun k hk => va_ne (by omega))]
  · rw [if_neg (by omega), g_bits_congr (N := N) (fun k hk => va_ne (by omega))]
  · rw [if_pos ⟨rfl, rfl⟩, va_eq]
  · rw [if_neg (by omega), va_ne (by omega)]
  · rw [if_neg (by omega), va_ne (by omega)]
theorem CS.hou {M : zM} {o s : Nat} {N : Nat → Nat} (hC : CS M o N) : CS (zu M.1 o 8 (nI (s)), M.2) o (va_up N 697 s) := by
  refine hC.one (fun r hr => ?_) (fun r hr => ?_) (fun r hr => ?_) (fun r hr => ?_) (fun r hr => ?_) ?_ ?_ ?_ ?_ ?_
  · rw [if_neg (by omega), va_ne (by omega)]
  · rw [if_neg (by omega), va_ne (by omega)]
  · rw [if_neg (by omega), va_ne (by omega)]
  · rw [if_neg (by omega), va_ne (by omega)]
  · rw [if_neg (by omega), g_sum_congr (N := N) (fun k hk => va_ne (by omega))]
  · rw [if_neg (by omega), g_bits_congr (N := N) (fun k hk => va_ne (by omega))]
  · rw [if_neg (by omega), g_bits_congr (N := N) (fun k hk => va_ne (by omega))]
  · rw [if_neg (by omega), va_ne (by omega)]
  · rw [if_pos ⟨rfl, rfl⟩, va_eq]
  · rw [if_neg (by omega), va_ne (by omega)]
theorem CS.lot {M : zM} {o s : Nat} {N : Nat → Nat} (hC : CS M o N) : CS (zu M.1 o 9 (nI (s)), M.2) o (va_up N 698 s) := by
  refine hC.one (fun r hr => ?_) (fun r hr => ?_) (fun r hr => ?_) (fun r hr => ?_) (fun r hr => ?_) ?_ ?_ ?_ ?_ ?_
  · rw [if_neg (by omega), va_ne (by omega)]
  · rw [if_neg (by omega), va_ne (by omega)]
  · rw [if_neg (by omega), va_ne (by omega)]
  · rw [if_neg (by omega), va_ne (by omega)]
  · rw [if_neg (by omega), g_sum_congr (N := N) (fun k hk => va_ne (by omega))]
  · rw [if_neg (by omega), g_bits_congr (N := N) (fun k hk => va_ne (by omega))]
  · rw [if_neg (by omega), g_bits_congr (N := N) (fun k hk => va_ne (by omega))]
  · rw [if_neg (by omega), va_ne (by omega)]
  · rw [if_neg (by omega), va_ne (by omega)]
  · rw [if_pos ⟨rfl, rfl⟩, va_eq]
theorem g_sum_set {N : Nat → Nat} {b i v : Nat} : ∀ n, (i < n → g_sum (va_up N (b + i) v) b n + N (b + i) = g_sum N b n + v) ∧ (n ≤ i → g_sum (va_up N (b + i) v) b n = g_sum N b n) := by
  intro n
  induction n with
  | zero => exact ⟨fun h => by omega, fun _ => rfl⟩
  | succ n ih =>
    obtain ⟨h1, h2⟩ := ih
    simp only [g_sum]
    constructor
    · intro h
      by_cases e : i = n
      · subst e
        rw [h2 (Nat.le_refl _), va_eq]; omega
      · rw [va_ne (by omega)]; have := h1 (by omega); omega
    · intro h
      rw [h2 (by omega), va_ne (by omega)]
theorem CS.fel {M : zM} {o j i s : Nat} {N : Nat → Nat} (hC : CS M o N) (hj : j < 24) (hi : i < 24) : CS (zu (zu M.1 (o + 4) (j * 24 + i) (nI s)) (o + 5) j (nI (g_sum (va_up N (120 + 24 * j + i) s) (120 + 24 * j) 24)), M.2) o (va_up N (120 + 24 * j + i) s) := by
  obtain ⟨h1, h2, h3, h4, h5, h6, h7, h8, h9, h10⟩ := hC
  refine ⟨fun r hr => ?_, fun r hr => ?_, fun r hr => ?_, fun r hr => ?_, fun r hr => ?_, ?_, ?_, ?_, ?_, ?_⟩ <;> (show zu (zu M.1 (o + 4) (j * 24 + i) (nI s)) (o + 5) j _ _ _ = _)
  · rw [zu_cell _ _ _ (by omega), zu_cell _ _ _ (by omega), h1 r hr, va_ne (by omega)]
  · rw [zu_cell _ _ _ (by omega), zu_cell _ _ _ (by omega), h2 r hr, va_ne (by omega)]
  · rw [zu_cell _ _ _ (by omega), zu_cell _ _ _ (by omega), h3 r hr, va_ne (by omega)]
  · rw [zu_cell _ _ _ (by omega)]
    by_cases e : r = j * 24 + i
    · rw [e, zu_same, show 120 + (j * 24 + i) = 120 + 24 * j + i by omega, va_eq]
    · rw [zu_ne _ _ _ e, h4 r hr, va_ne (by omega)]
  · by_cases e : r = j
    · rw [e, zu_same]
    · rw [zu_ne _ _ _ e, zu_cell _ _ _ (by omega), h5 r hr, g_sum_congr (N := N) (N' := va_up N (120 + 24 * j + i) s) (fun k hk => va_ne (by omega))]
  · rw [zu_cell _ _ _ (by omega), zu_cell _ _ _ (by omega), h6, g_bits_congr (N := N) (N' := va_up N (120 + 24 * j + i) s) (fun k hk => va_ne (by omega))]
  · rw [zu_cell _ _ _ (by omega), zu_cell _ _ _ (by omega), h7, g_bits_congr (N := N) (N' := va_up N (120 + 24 * j + i) s) (fun k hk => va_ne (by omega))]
  · rw [zu_cell _ _ _ (by omega), zu_cell _ _ _ (by omega), h8, va_ne (by omega)]
  · rw [zu_cell _ _ _ (by omega), zu_cell _ _ _ (by omega), h9, va_ne (by omega)]
  · rw [zu_cell _ _ _ (by omega), zu_cell _ _ _ (by omega), h10, va_ne (by omega)]
theorem NR.sin {N : Nat → Nat} (hR : NR N) {j v : Nat} (hj : j < 24) (hv : v ≤ N (24 + j)) : NR (va_up N (24 + j) v) := by
  obtain ⟨r1, r2, r3, r4, r5, r6, r7, r8, r9, r10⟩ := hR
  refine ⟨fun r hr => ?_, fun r hr => ?_, fun r hr => ?_, fun r hr => ?_, fun r hr => ?_, fun r hr => ?_, ?_, ?_, ?_, fun r hr => ?_⟩
  · rw [va_ne (by omega)]; exact r1 r hr
  · by_cases e : r = j
    · rw [e, va_eq]; have := r2 j hj; omega
    · rw [va_ne (by omega)]; exact r2 r hr
  · rw [va_ne (by omega)]; exact r3 r hr
  · rw [va_ne (by omega)]; exact r4 r hr
  · rw [va_ne (by omega)]; exact r5 r hr
  · rw [va_ne (by omega)]; exact r6 r hr
  · rw [va_ne (by omega)]; exact r7
  · rw [va_ne (by omega)]; exact r8
  · rw [va_ne (by omega)]; exact r9
  · rw [va_ne (by omega)]
    intro h
    have := r10 r hr h
    by_cases e : r = j
    · rw [e, va_eq]; rw [e] at this; omega
    · rw [va_ne (by omega)]; exact this
/-- the numbers, and what came out, settled, went out -/
def gKs (L : Nat → Nat → Int32) (nr : Nat) (N : Nat → Nat) (r p left : Nat) : Nat := min left (tn (byL L (fcs N r p left) 107 99 nr 0))
def gDs (L : Nat → Nat → Int32) (nr : Nat) (N : Nat → Nat) (r p left : Nat) : Nat := tn (byL L (fcs N r p left) 100 10 nr 0)
def gN1 (L : Nat → Nat → Int32) (nr : Nat) (N : Nat → Nat) (r p left : Nat) : Nat → Nat := va_up N (96 + p) (min 99999 (N (96 + p) + gKs L nr N r p left))
def gLo (N : Nat → Nat) : Nat → Nat := va_up N 698 ((25173 * N 698 + 13849) % 65536)
def gFe (N : Nat → Nat) (r p left : Nat) : Nat → Nat := va_up N (120 + 24 * p + r) (min 99999 (N (120 + 24 * p + r) + left))
def gCo (G : (Nat → Nat) × Nat × Nat × Nat) (left : Nat) : (Nat → Nat) × Nat × Nat × Nat := (va_up G.1 696 (min 999999 (G.1 696 + left)), G.2.1, G.2.2.1, G.2.2.2 + left)
def gRi (L : Nat → Nat → Int32) (nr r : Nat) : Nat → (Nat → Nat) × Nat × Nat × Nat → Nat → Nat → (Nat → Nat) × Nat × Nat × Nat
  | 0, G, left, _ => gCo G left
  | m + 1, G, left, p =>
    if p = 24 then gCo G left
    else if left - gKs L nr G.1 r p left = 0 then (gN1 L nr G.1 r p left, G.2.1, G.2.2.1 + gKs L nr G.1 r p left, G.2.2.2)
    else if tk (gN1 L nr G.1 r p left) p then
      (if gLo (gN1 L nr G.1 r p left) 698 % 10 < gDs L nr (gN1 L nr G.1 r p left) r p (left - gKs L nr G.1 r p left) then (gFe (gLo (gN1 L nr G.1 r p left)) r p (left - gKs L nr G.1 r p left), G.2.1 + (left - gKs L nr G.1 r p left), G.2.2.1 + gKs L nr G.1 r p left, G.2.2.2)
      else gRi L nr r m (gLo (gN1 L nr G.1 r p left), G.2.1, G.2.2.1 + gKs L nr G.1 r p left, G.2.2.2) (left - gKs L nr G.1 r p left) (abv (gLo (gN1 L nr G.1 r p left)) p))
    else gRi L nr r m (gN1 L nr G.1 r p left, G.2.1, G.2.2.1 + gKs L nr G.1 r p left, G.2.2.2) (left - gKs L nr G.1 r p left) (abv (gN1 L nr G.1 r p left) p)
def gMu (L : Nat → Nat → Int32) (nr : Nat) (N : Nat → Nat) (r : Nat) : Nat := min (N (24 + r)) (tn (byL L (fcs N r r 0) 99 99 nr 0))
def gSe (L : Nat → Nat → Int32) (nr r : Nat) (G : (Nat → Nat) × Nat × Nat × Nat) : (Nat → Nat) × Nat × Nat × Nat :=
  if tk G.1 r = false then G else if G.1 (24 + r) = 0 then G else if fgL L (fcs G.1 r r 0) nr 0 = true then G else if gMu L nr G.1 r = 0 then G
  else gRi L nr r 6 (va_up G.1 (24 + r) (G.1 (24 + r) - gMu L nr G.1 r), G.2) (gMu L nr G.1 r) (abv G.1 r)
def gRo (L : Nat → Nat → Int32) (nr : Nat) : Nat → Nat → (Nat → Nat) × Nat × Nat × Nat → (Nat → Nat) × Nat × Nat × Nat
  | 0, _, G => G
  | m + 1, r, G => gRo L nr m (r + 1) (gSe L nr r G)
def gHo (L : Nat → Nat → Int32) (nr : Nat) (G : (Nat → Nat) × Nat × Nat × Nat) : (Nat → Nat) × Nat × Nat × Nat := (va_up (gRo L nr 24 0 G).1 697 ((gRo L nr 24 0 G).1 697 + 1), (gRo L nr 24 0 G).2)
def gHs (L : Nat → Nat → Int32) (nr : Nat) : Nat → (Nat → Nat) × Nat × Nat × Nat → (Nat → Nat) × Nat × Nat × Nat
  | 0, G => G
  | m + 1, G => if 99999 ≤ G.1 697 then G else gHs L nr m (gHo L nr G)
/-- ranges are kept -/
theorem gN1_R {L : Nat → Nat → Int32} {nr r p left : Nat} {N : Nat → Nat} (hR : NR N) (hp : p < 24) : NR (gN1 L nr N r p left) := hR.gre (by omega) (by omega) (by omega)
theorem gLo_R {N : Nat → Nat} (hR : NR N) : NR (gLo N) := hR.lot (by omega)
theorem gFe_R {N : Nat → Nat} {r p left : Nat} (hR : NR N) (hp : p < 24) (hr : r < 24) : NR (gFe N r p left) := hR.fel (by omega) (by omega) (by omega)
theorem gCo_R {G : (Nat → Nat) × Nat × Nat × Nat} {left : Nat} (hR : NR G.1) : NR (gCo G left).1 := hR.cow (by omega)
def sam (N N' : Nat → Nat) : Prop := N' 697 = N 697
theorem gCo_s {G : (Nat → Nat) × Nat × Nat × Nat} {left : Nat} : sam G.1 (gCo G left).1 := by
  show va_up G.1 696 (min 999999 (G.1 696 + left)) 697 = G.1 697
  exact va_ne (by omega)
theorem gRi_R {L : Nat → Nat → Int32} {nr r : Nat} (hr : r < 24) : ∀ m G left p, p ≤ 24 → NR G.1 → NR (gRi L nr r m G left p).1 ∧ sam G.1 (gRi L nr r m G left p).1 := by
  intro m
  induction m with
  | zero => intro G left p hp hR; exact ⟨gCo_R hR, gCo_s⟩
  | succ m ih =>
    intro G left p hp hR
    have x1 : ∀ q, gN1 L nr G.1 r q left 697 = G.1 697 ∨ 24 ≤ q := fun q => by
      by_cases h : q < 24
      · exact Or.inl (va_ne (by omega))
      · exact Or.inr (by omega)
    rw [gRi]
    by_cases h24 : p = 24
    · rw [if_pos h24]; exact ⟨gCo_R hR, gCo_s⟩
    · rw [if_neg h24]
      have hp' : p < 24 := by omega
      have y1 : gN1 L nr G.1 r p left 697 = G.1 697 := va_ne (by omega)
      have y2 : gLo (gN1 L nr G.1 r p left) 697 = G.1 697 := (va_ne (by omega)).trans y1
      by_cases h0 : left - gKs L nr G.1 r p left = 0
      · rw [if_pos h0]; exact ⟨gN1_R hR hp', y1⟩
      · rw [if_neg h0]
        by_cases ht : tk (gN1 L nr G.1 r p left) p = true
        · rw [if_pos ht]
          by_cases hd : gLo (gN1 L nr G.1 r p left) 698 % 10 < gDs L nr (gN1 L nr G.1 r p left) r p (left - gKs L nr G.1 r p left)
          · rw [if_pos hd]; exact ⟨gFe_R (gLo_R (gN1_R hR hp')) hp' hr, (va_ne (by omega)).trans y2⟩
          · rw [if_neg hd]
            obtain ⟨i1, i2⟩ := ih (gLo (gN1 L nr G.1 r p left), G.2.1, G.2.2.1 + gKs L nr G.1 r p left, G.2.2.2) (left - gKs L nr G.1 r p left) (abv (gLo (gN1 L nr G.1 r p left)) p) (abv_le _) (gLo_R (gN1_R hR hp'))
            exact ⟨i1, i2.trans y2⟩
        · rw [if_neg ht]
          obtain ⟨i1, i2⟩ := ih (gN1 L nr G.1 r p left, G.2.1, G.2.2.1 + gKs L nr G.1 r p left, G.2.2.2) (left - gKs L nr G.1 r p left) (abv (gN1 L nr G.1 r p left) p) (abv_le _) (gN1_R hR hp')
          exact ⟨i1, i2.trans y1⟩
theorem gSe_R {L : Nat → Nat → Int32} {nr r : Nat} {G : (Nat → Nat) × Nat × Nat × Nat} (hr : r < 24) (hR : NR G.1) : NR (gSe L nr r G).1 ∧ sam G.1 (gSe L nr r G).1 := by
  unfold gSe
  by_cases h1 : tk G.1 r = false
  · rw [if_pos h1]; exact ⟨hR, rfl⟩
  rw [if_neg h1]
  by_cases h2 : G.1 (24 + r) = 0
  · rw [if_pos h2]; exact ⟨hR, rfl⟩
  rw [if_neg h2]
  by_cases h3 : fgL L (fcs G.1 r r 0) nr 0 = true
  · rw [if_pos h3]; exact ⟨hR, rfl⟩
  rw [if_neg h3]
  by_cases h4 : gMu L nr G.1 r = 0
  · rw [if_pos h4]; exact ⟨hR, rfl⟩
  rw [if_neg h4]
  obtain ⟨i1, i2⟩ := gRi_R (L := L) (nr := nr) hr 6 (va_up G.1 (24 + r) (G.1 (24 + r) - gMu L nr G.1 r), G.2) (gMu L nr G.1 r) (abv G.1 r) (abv_le _) (hR.sin hr (by omega))
  exact ⟨i1, i2.trans (va_ne (by omega))⟩
theorem gRo_R {L : Nat → Nat → Int32} {nr : Nat} : ∀ m r G, r + m = 24 → NR G.1 → NR (gRo L nr m r G).1 ∧ sam G.1 (gRo L nr m r G).1 := by
  intro m
  induction m with
  | zero => intro r G h hR; exact ⟨hR, rfl⟩
  | succ m ih =>
    intro r G h hR
    obtain ⟨a1, a2⟩ := gSe_R (L := L) (nr := nr) (r := r) (by omega) hR
    obtain ⟨i1, i2⟩ := ih (r + 1) (gSe L nr r G) (by omega) a1
    exact ⟨i1, i2.trans a2⟩
theorem gHo_R {L : Nat → Nat → Int32} {nr : Nat} {G : (Nat → Nat) × Nat × Nat × Nat} (hR : NR G.1) (hh : G.1 697 < 99999) : NR (gHo L nr G).1 := by
  obtain ⟨i1, i2⟩ := gRo_R (L := L) (nr := nr) 24 0 G (by omega) hR
  refine i1.hou ?_
  have : (gRo L nr 24 0 G).1 697 = G.1 697 := i2
  omega
theorem gHs_R {L : Nat → Nat → Int32} {nr : Nat} : ∀ m G, NR G.1 → NR (gHs L nr m G).1 := by
  intro m
  induction m with
  | zero => intro G hR; exact hR
  | succ m ih =>
    intro G hR
    rw [gHs]
    by_cases h : 99999 ≤ G.1 697
    · rw [if_pos h]; exact hR
    · rw [if_neg h]; exact ih _ (gHo_R hR (by omega))
