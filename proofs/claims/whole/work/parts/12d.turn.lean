/-! ways, turn -/
theorem c_isRise {r to : Nat} (hr : r < 24) (ht : to < 24) (M : zM) : f_X11_isRise (nI r) (nI to) M = some (if r / 4 < to / 4 then 1 else 0, M) := by
  rw [f_X11_isRise, e_room hr, z_call_eq, if_neg (by decide), e_room ht, z_call_eq, if_neg (by decide), f_X11_floorOf, z_call_eq, f_X11_floorOf, z_call_eq, div4 (by omega), div4 (by omega)]
  by_cases h : r / 4 < to / 4
  · rw [if_neg (nI_ge h (by omega)), if_pos h]
  · rw [if_pos ((nI_leI (by omega) (by omega)).mpr (by omega)), if_neg h]
/-- a change of scratch cells alone -/
theorem Inv.sct {M M2 : zM} {N K : Nat → Nat} {l : List Nat} (hS : ST M) (hR : NR N) (hN : MN M 55 N) (hC : CS M 3 N) (hK : KP M K) (hT : TP M) (hL : LW M) (hF : Fr l M M2) (hl : ∀ c ∈ impC, c ∉ l) (h1 : 1 ∉ l) (h54 : 54 ∉ l) : Inv M2 := by
  refine Inv.scr hS hR hN hC hK hL hF hl (hT.to (by rw [hF.1 1 h1]) (by rw [hF.1 54 h54]) (hF.1 2 (hl 2 (by decide))) (hF.1 58 (hl 58 (by decide)))) (by rw [hF.1 54 h54]) (by rw [hF.1 54 h54])
theorem p_ways : ok_ways Inv := by
  intro M hI a b
  obtain ⟨N, K, hS, hR, hN, hC, hK, hT, hL⟩ := id hI
  rcases room_cases a with ⟨r, hr, rfl⟩ | ha
  · rcases room_cases b with ⟨to, ht, rfl⟩ | hb
    · by_cases h : r / 4 < to / 4
      · obtain ⟨M1, h1, f1⟩ := c_rows hS ht hr
        have s1 := f1.st hS
        obtain ⟨M2, g1, f2, g3, g4⟩ := m_lf s1 (hN.to (f1.1 55 (by decide))) hR ht
        refine ⟨nI (wt to (to / 4 * 4) r), M1, M2, ?_, ?_, ?_⟩
        · rw [f_X11_ways, c_isRise hr ht, if_pos h, z_call_eq, if_neg (by decide), (ST.a hS (o := 0) (k := 7) (a := 40) (by decide)), z_rd_eq, h1, z_call_eq]
        · have s2 := f2.st s1
          rw [f_X12_ways, e_room2 hr, z_call_eq, if_neg (by decide), e_room2 ht, z_call_eq, if_neg (by decide), div4 (by omega), div4 (by omega), if_pos ((nI_ltI (by omega) (by omega)).mpr h), g1, z_call_eq, (ST.a s2 (o := 54) (k := 32) (a := 73) (by decide)), z_rd_eq, ln73, if_pos (by rw [z_ixN (by omega)]; omega), nI_clamp (by omega), g4 r hr]
        · exact Inv.sct hS hR hN hC hK hT hL (l := [41, 72, 73]) ((f1.mono (by decide)).tr (f2.mono (by decide))) (by decide) (by decide) (by decide)
      · refine ⟨-1, M, M, ?_, ?_, hI⟩
        · rw [f_X11_ways, c_isRise hr ht, if_neg h, z_call_eq, if_pos rfl]
        · rw [f_X12_ways, e_room2 hr, z_call_eq, if_neg (by decide), e_room2 ht, z_call_eq, if_neg (by decide), div4 (by omega), div4 (by omega), if_neg (fun q => h ((nI_ltI (by omega) (by omega)).mp q))]
    · refine ⟨-1, M, M, ?_, ?_, hI⟩
      · rw [f_X11_ways, f_X11_isRise, e_room hr, z_call_eq, if_neg (by decide), (hb M).1, z_call_eq, if_pos rfl, z_call_eq, if_pos rfl]
      · rw [f_X12_ways, e_room2 hr, z_call_eq, if_neg (by decide), (hb M).2, z_call_eq, if_pos rfl]
  · refine ⟨-1, M, M, ?_, ?_, hI⟩
    · rw [f_X11_ways, f_X11_isRise, (ha M).1, z_call_eq, if_pos rfl, z_call_eq, if_pos rfl]
    · rw [f_X12_ways, (ha M).2, z_call_eq, if_pos rfl]
-- the next room by the fewest turns
theorem c_next_lp {M : zM} {N T : Nat → Nat} {p d : Nat} (hS : ST M) (hC : CS M 3 N) (hR : NR N) (hT : TT M 41 T) (hp : p < 20) (hx : ∀ j, T j ≤ 100000) (d1 : inr p d = true) (d2 : T (ups p d) + trn N p d = T p) (d3 : ∀ c, c < d → inr p c = true → T (ups p c) + trn N p c ≠ T p) : ∀ m n c, c + m = d → m < n → lo p ≤ c → f_X2_leastNext_5 40 3 (nI p) n (nI (ups p c)) M = some (nI (ups p d), M) := by
  have hlh := lohi p
  have hd : lo p ≤ d ∧ d ≤ hi p := by simpa [inr] using d1
  intro m
  induction m with
  | zero =>
    intro n c hc hn hl
    obtain ⟨n, rfl⟩ : ∃ m, n = m + 1 := ⟨n - 1, by omega⟩
    obtain rfl : c = d := by omega
    rw [f_X2_leastNext_5, c_high hp, z_call_eq, if_neg (nI_nlt (by unfold ups; omega) (by unfold ups; omega)), c_turnsBy hS hC hR hT hp (by omega), z_call_eq, (ST.a hS (o := 40) (k := 0) (a := 41) (by decide)), z_rd_eq, ln41, if_pos (by rw [z_ixN (by omega)]; omega), nI_clamp (by omega), hT p (by omega), if_pos (by rw [d2])]
  | succ m ih =>
    intro n c hc hn hl
    obtain ⟨n, rfl⟩ : ∃ m, n = m + 1 := ⟨n - 1, by omega⟩
    have h1 := hx (ups p c)
    have h2 := trn_le (N := N) (p := p) (c := c)
    have h3 := hx p
    rw [f_X2_leastNext_5, c_high hp, z_call_eq, if_neg (nI_nlt (by unfold ups; omega) (by unfold ups; omega)), c_turnsBy hS hC hR hT hp (by omega), z_call_eq, (ST.a hS (o := 40) (k := 0) (a := 41) (by decide)), z_rd_eq, ln41, if_pos (by rw [z_ixN (by omega)]; omega), nI_clamp (by omega), hT p (by omega), if_neg (fun q => d3 c (by omega) (inr_t hl (by omega)) ((nI_eq (by omega) (by omega)).mp q)), zl_eq, nI_1]
    exact ih n (c + 1) (by omega) (by omega) (by omega)
theorem m_next_lp {M : zM} {N T : Nat → Nat} {p d : Nat} {x3 x5 : Int32} {K : Int32 → Int32 → zM → Option (Int32 × zM)} (hS : ST M) (hN : MN M 55 N) (hR : NR N) (hT : TT M 72 (fun j => phi (T j))) (hp : p < 20) (hx : ∀ j, T j = 1000 ∨ T j ≤ 400) (hpx : T p < 1000) (d1 : inr p d = true) (d2 : T (ups p d) + trn N p d = T p) (d3 : ∀ c, c < d → inr p c = true → T (ups p c) + trn N p c ≠ T p) : ∀ m n c, c + m = d → m < n → f_X12_turn_102 54 x3 K n (nI p) x5 (nI c) M = K (nI (ups p d)) (x5 + 1) M := by
  have hlh := lohi p
  have hd : lo p ≤ d ∧ d ≤ hi p := by simpa [inr] using d1
  have e0 : ∀ c, (nI p / 4 * 4 + 4 + nI c : Int32) = nI (ups p c) := by
    intro c
    rw [div4 (by omega), show (4 : Int32) = nI 4 from rfl, nI_mul, nI_add, nI_add]
    rfl
  have ep : M.1 72 p = nI (T p) := by rw [hT p (by omega)]; show nI (phi (T p)) = _; unfold phi; rw [if_pos hpx]
  have hpp := hx p
  intro m
  induction m with
  | zero =>
    intro n c hc hn
    obtain ⟨n, rfl⟩ : ∃ m, n = m + 1 := ⟨n - 1, by omega⟩
    obtain rfl : c = d := by omega
    have hu : ups p c < 24 := by unfold ups; omega
    have ht := trn_le (N := N) (p := p) (c := c)
    have hxc := hx (ups p c)
    have eu : M.1 72 (ups p c) = nI (T (ups p c)) := by rw [hT _ hu]; show nI (phi (T (ups p c))) = _; unfold phi; rw [if_pos (by omega)]
    rw [f_X12_turn_102, m_cost hS hN hR (by omega) (by omega), z_call_eq, e0, (ST.a hS (o := 54) (k := 31) (a := 72) (by decide)), z_rd_eq, ln72, if_pos (by rw [z_ixN (by omega)]; omega), z_rd_eq, ln72, if_pos (by rw [z_ixN (by omega)]; omega), nI_clamp (by omega), nI_clamp (by omega), eu, ep, cst_trn hp d1, nI_add, if_pos (by rw [Nat.add_comm, d2]), zl_eq, zl_eq]
  | succ m ih =>
    intro n c hc hn
    obtain ⟨n, rfl⟩ : ∃ m, n = m + 1 := ⟨n - 1, by omega⟩
    have hu : ups p c < 24 := by unfold ups; omega
    have ht := trn_le (N := N) (p := p) (c := c)
    have hxc := hx (ups p c)
    have hpl := phi_le (T (ups p c))
    have eu : M.1 72 (ups p c) = nI (phi (T (ups p c))) := hT _ hu
    have hcs : cst N p c ≤ 1000000 := by unfold cst; by_cases q1 : min 3 (p % 4 + N (72 + p) - 1) = c <;> by_cases q2 : inr p c = true <;> simp [q1, q2]
    have hne : cst N p c + phi (T (ups p c)) ≠ T p := by
      by_cases q : inr p c = true
      · rw [cst_trn hp q]
        unfold phi
        by_cases h : T (ups p c) < 1000
        · rw [if_pos h, Nat.add_comm]; exact d3 c (by omega) q
        · rw [if_neg h]; omega
      · rw [cst_out hR (by omega) (by simpa using q)]; omega
    rw [f_X12_turn_102, m_cost hS hN hR (by omega) (by omega), z_call_eq, e0, (ST.a hS (o := 54) (k := 31) (a := 72) (by decide)), z_rd_eq, ln72, if_pos (by rw [z_ixN (by omega)]; omega), z_rd_eq, ln72, if_pos (by rw [z_ixN (by omega)]; omega), nI_clamp (by omega), nI_clamp (by omega), eu, ep, nI_add, if_neg (fun q => hne ((nI_eq (by omega) (by omega)).mp q)), zl_eq, nI_1]
    exact ih n (c + 1) (by omega) (by omega)
theorem first_c {P : Nat → Prop} [DecidablePred P] : ∀ n, (∃ d, d < n ∧ P d) → ∃ d, d < n ∧ P d ∧ ∀ c, c < d → ¬ P c := by
  intro n
  induction n with
  | zero => intro ⟨d, d1, _⟩; omega
  | succ n ih =>
    intro ⟨d, d1, d2⟩
    by_cases h : ∃ d, d < n ∧ P d
    · obtain ⟨e, e1, e2⟩ := ih h
      exact ⟨e, by omega, e2⟩
    · refine ⟨d, d1, d2, fun c hc hp => h ⟨c, by omega, hp⟩⟩
theorem turn_lp {M M2 : zM} {N : Nat → Nat} {to w : Nat} (hS : ST M) (hS2 : ST M2) (hC : CS M 3 N) (hN : MN M2 55 N) (hR : NR N) (hto : to < 24) (hT : TT M 41 (tt N to (to / 4 * 4))) (hT2 : TT M2 72 (fun j => phi (tt N to (to / 4 * 4) j))) (hw : w ≤ 4) : ∀ m n k p, k + m = w + 1 → m < n → p < 24 → p / 4 + m ≤ to / 4 → tt N to (to / 4 * 4) p < 1000 → ∃ v, f_X2_turned_58 40 3 (nI w) n (nI p) (nI k) M = some (v, M) ∧ f_X12_turn_93 54 (nI w) n (nI p) (nI k) M2 = some (v, M2) := by
  have hb := tt_b (N := N) (to := to) (to / 4 * 4) (by omega)
  intro m
  induction m with
  | zero =>
    intro n k p hk hn hp hf ht
    obtain ⟨n, rfl⟩ : ∃ m, n = m + 1 := ⟨n - 1, by omega⟩
    refine ⟨nI (p % 4), ?_, ?_⟩
    · rw [f_X2_turned_58, if_pos ((nI_ltI (by omega) (by omega)).mpr (by omega)), f_X11_columnOf, z_call_eq, rem4 (by omega)]
    · rw [f_X12_turn_93, if_pos ((nI_ltI (by omega) (by omega)).mpr (by omega)), rem4 (by omega)]
  | succ m ih =>
    intro n k p hk hn hp hf ht
    obtain ⟨n, rfl⟩ : ∃ m, n = m + 1 := ⟨n - 1, by omega⟩
    have hlh := lohi p
    have e := tt_fin (N := N) (to := to) (to / 4 * 4) (Nat.le_refl _) p (by omega) (by omega)
    obtain ⟨d0, g1, g2, g3⟩ := mc_at (N := N) (T := tt N to (to / 4 * 4)) (p := p) 4 (by rw [← e]; exact ht)
    rw [← e] at g3
    obtain ⟨d, d1, ⟨d2, d3⟩, d4⟩ := first_c (P := fun d => inr p d = true ∧ tt N to (to / 4 * 4) (ups p d) + trn N p d = tt N to (to / 4 * 4) p) 4 ⟨d0, g1, g2, g3⟩
    have hd : lo p ≤ d ∧ d ≤ hi p := by simpa [inr] using d2
    have d5 : ∀ c, c < d → inr p c = true → tt N to (to / 4 * 4) (ups p c) + trn N p c ≠ tt N to (to / 4 * 4) p := fun c hc h1 h2 => d4 c hc ⟨h1, h2⟩
    obtain ⟨v, v1, v2⟩ := ih n (k + 1) (ups p d) (by omega) (by omega) (by unfold ups; omega) (by unfold ups; omega) (by omega)
    refine ⟨v, ?_, ?_⟩
    · rw [f_X2_turned_58, if_neg (nI_nlt (by omega) (by omega)), f_X2_leastNext, c_low (by omega), z_call_eq, c_next_lp hS hC hR hT (by omega) (fun j => by have := hb j; omega) d2 d3 d5 (d - lo p) zF (lo p) (by omega) (by unfold zF; omega) (Nat.le_refl _), z_call_eq, zl_eq, nI_1]
      exact v1
    · rw [f_X12_turn_93, if_neg (nI_nlt (by omega) (by omega)), show (0 : Int32) = nI 0 from rfl, m_next_lp hS2 hN hR hT2 (by omega) (fun j => by have := hb j; omega) ht d2 d3 d5 d zF 0 (by omega) (by unfold zF; omega), nI_1]
      exact v2
theorem p_turn : ok_turn Inv := by
  intro M hI a b x
  obtain ⟨N, K, hS, hR, hN, hC, hK, hT, hL⟩ := id hI
  rcases room_cases a with ⟨r, hr, rfl⟩ | ha
  · rcases room_cases b with ⟨to, ht, rfl⟩ | hb
    · by_cases h : r / 4 < to / 4
      · rcases w100_cases x 4 (by omega) with ⟨w, hw⟩ | ⟨hx1, hx2⟩
        · obtain ⟨M1, h1, f1, t1⟩ := c_tf hS hC hR ht
          have s1 := f1.st hS
          obtain ⟨M2, g1, f2, g3, g4⟩ := m_lf s1 (hN.to (f1.1 55 (by decide))) hR ht
          have s2 := f2.st s1
          have hb := tt_b (N := N) (to := to) (to / 4 * 4) (by omega)
          have hbr := hb r
          have cc : f_X11_turn 0 (nI r) (nI to) x M = f_X11_turn_25 0 (nI r) (nI to) x M := by
            rw [f_X11_turn, c_isRise hr ht, if_pos h, z_call_eq, if_neg (by decide)]
            by_cases q : x = 100
            · rw [if_pos q]
            · rcases hw with hw | ⟨hw, hw2⟩
              · exact absurd hw q
              · rw [if_neg q, e_within, hw, show (4 : Int32) = nI 4 from rfl, e_in1 (by omega) hw2, z_call_eq, if_neg (by decide)]
          have mm : f_X12_turn 54 (nI r) (nI to) x M1 = f_X12_turn_40 54 (nI r) (nI to) x M1 := by
            rw [f_X12_turn, e_room2 hr, z_call_eq, if_neg (by decide), e_room2 ht, z_call_eq, if_neg (by decide), div4 (by omega), div4 (by omega), if_neg (nI_ge h (by omega))]
            rcases hw with hw | ⟨hw, hw2⟩
            · rw [hw, show f_X12_in 100 0 4 M1 = some (0, M1) from e_in0 (n := 4) (by omega) (Or.inr (by decide)) M1, z_call_eq, if_pos rfl, if_pos rfl]
            · rw [hw, show f_X12_in (nI w) 0 4 M1 = some (1, M1) from e_in1 (n := 4) (by omega) hw2 M1, z_call_eq, if_neg (by decide)]
          have eq2 : ∀ (X : Option (Int32 × zM)), (if nI (phi (tt N to (to / 4 * 4) r)) < (1000000 : Int32) then X else some ((-2), M2)) = if tt N to (to / 4 * 4) r < 1000 then X else some ((-2), M2) := by
            intro X
            unfold phi
            by_cases q : tt N to (to / 4 * 4) r < 1000
            · rw [if_pos q, if_pos q, if_pos (show nI (tt N to (to / 4 * 4) r) < (1000000 : Int32) from (nI_ltI (b := 1000000) (by omega) (by omega)).mpr (by omega))]
            · rw [if_neg q, if_neg q, if_neg (by decide)]
          have eq1 : ∀ (X : Option (Int32 × zM)), (if nI (tt N to (to / 4 * 4) r) < (1000 : Int32) then X else some ((-2), M1)) = if tt N to (to / 4 * 4) r < 1000 then X else some ((-2), M1) := by
            intro X
            by_cases q : tt N to (to / 4 * 4) r < 1000
            · rw [if_pos q, if_pos (show nI (tt N to (to / 4 * 4) r) < (1000 : Int32) from (nI_ltI (b := 1000) (by omega) (by omega)).mpr (by omega))]
            · rw [if_neg q, if_neg (show ¬ nI (tt N to (to / 4 * 4) r) < (1000 : Int32) from fun z => q ((nI_ltI (b := 1000) (by omega) (by omega)).mp z))]
          have hIv : Inv M2 := Inv.sct hS hR hN hC hK hT hL (l := [41, 72, 73]) ((f1.mono (by decide)).tr (f2.mono (by decide))) (by decide) (by decide) (by decide)
          have zr : z_ix (nI r) 24 = true := by rw [z_ixN (by omega)]; omega
          rw [cc]
          have c1 : f_X11_turn_25 0 (nI r) (nI to) x M = z_call (if tt N to (to / 4 * 4) r < 1000 then (if x = 100 then some (nI (tt N to (to / 4 * 4) r), M1) else (if x < nI (to / 4 - r / 4) then (f_X2_turned_58 40 3 x zF (nI r) 0 M1) else some ((-4), M1))) else some ((-2), M1)) fun v_3 M_4 => some (v_3, M_4) := by
            rw [f_X11_turn_25, (ST.a hS (o := 0) (k := 7) (a := 40) (by decide)), z_rd_eq, (ST.a hS (o := 0) (k := 1) (a := 3) (by decide)), z_rd_eq, f_X2_turned, h1, z_call_eq, (ST.a s1 (o := 40) (k := 0) (a := 41) (by decide)), z_rd_eq, ln41, if_pos (by rw [z_ixN (by omega)]; omega), nI_clamp (by omega), t1 r hr, eq1, z_rd_eq, ln41, if_pos zr, t1 r hr, f_X11_floorOf, z_call_eq, f_X11_floorOf, z_call_eq, div4 (by omega), div4 (by omega), nI_sub (by omega)]
          have m1 : f_X12_turn_40 54 (nI r) (nI to) x M1 = (if tt N to (to / 4 * 4) r < 1000 then (if x = 100 then some (nI (phi (tt N to (to / 4 * 4) r)), M2) else (if x < nI (to / 4 - r / 4) then (f_X12_turn_93 54 x zF (nI r) 0 M2) else some ((-4), M2))) else some ((-2), M2)) := by
            have g3r : M2.1 72 r = nI (phi (tt N to (to / 4 * 4) r)) := g3 r hr
            rw [f_X12_turn_40, g1, z_call_eq, (ST.a s2 (o := 54) (k := 31) (a := 72) (by decide)), z_rd_eq, ln72, if_pos (by rw [z_ixN (by omega)]; omega), nI_clamp (by omega), g3r, eq2, z_rd_eq, ln72, if_pos zr, g3r, div4 (by omega), div4 (by omega), nI_sub (by omega)]
          rw [c1]
          by_cases q : tt N to (to / 4 * 4) r < 1000
          · by_cases q2 : x = 100
            · refine ⟨nI (tt N to (to / 4 * 4) r), M1, M2, ?_, ?_, hIv⟩
              · rw [if_pos q, if_pos q2, z_call_eq]
              · rw [mm, m1, if_pos q, if_pos q2]
                unfold phi
                rw [if_pos q]
            · rcases hw with hw | ⟨hw, hw2⟩
              · exact absurd hw q2
              · by_cases q3 : w < to / 4 - r / 4
                · obtain ⟨v, v1, v2⟩ := turn_lp (w := w) s1 s2 (hC.to (fun c z1 z2 => f1.1 c (by simp; omega))) ((hN.to (f1.1 55 (by decide))).to (f2.1 55 (by decide))) hR ht t1 g3 hw2 (w + 1) zF 0 r (by omega) (by unfold zF; omega) hr (by omega) q
                  refine ⟨v, M1, M2, ?_, ?_, hIv⟩
                  · rw [if_pos q, if_neg q2, hw, if_pos ((nI_ltI (by omega) (by omega)).mpr q3), show f_X2_turned_58 40 3 (nI w) zF (nI r) 0 M1 = some (v, M1) from v1, z_call_eq]
                  · rw [mm, m1, if_pos q, if_neg q2, hw, if_pos ((nI_ltI (by omega) (by omega)).mpr q3)]
                    exact v2
                · refine ⟨-4, M1, M2, ?_, ?_, hIv⟩
                  · rw [if_pos q, if_neg q2, hw, if_neg (fun z => q3 ((nI_ltI (by omega) (by omega)).mp z)), z_call_eq]
                  · rw [mm, m1, if_pos q, if_neg q2, hw, if_neg (fun z => q3 ((nI_ltI (by omega) (by omega)).mp z))]
          · refine ⟨-2, M1, M2, ?_, ?_, hIv⟩
            · rw [if_neg q, z_call_eq]
            · rw [mm, m1, if_neg q]
        · refine ⟨-1, M, M, ?_, ?_, hI⟩
          · rw [f_X11_turn, c_isRise hr ht, if_pos h, z_call_eq, if_neg (by decide), if_neg hx1, e_within, show (4 : Int32) = nI 4 from rfl, e_in0 (by omega) hx2, z_call_eq, if_pos rfl]
          · rw [f_X12_turn, e_room2 hr, z_call_eq, if_neg (by decide), e_room2 ht, z_call_eq, if_neg (by decide), div4 (by omega), div4 (by omega), if_neg (nI_ge h (by omega)), show f_X12_in x 0 4 M = some (0, M) from e_in0 (n := 4) (by omega) hx2 M, z_call_eq, if_pos rfl, if_neg hx1]
      · refine ⟨-1, M, M, ?_, ?_, hI⟩
        · rw [f_X11_turn, c_isRise hr ht, if_neg h, z_call_eq, if_pos rfl]
        · rw [f_X12_turn, e_room2 hr, z_call_eq, if_neg (by decide), e_room2 ht, z_call_eq, if_neg (by decide), div4 (by omega), div4 (by omega), if_pos ((nI_leI (by omega) (by omega)).mpr (by omega))]
    · refine ⟨-1, M, M, ?_, ?_, hI⟩
      · rw [f_X11_turn, f_X11_isRise, e_room hr, z_call_eq, if_neg (by decide), (hb M).1, z_call_eq, if_pos rfl, z_call_eq, if_pos rfl]
      · rw [f_X12_turn, e_room2 hr, z_call_eq, if_neg (by decide), (hb M).2, z_call_eq, if_pos rfl]
  · refine ⟨-1, M, M, ?_, ?_, hI⟩
    · rw [f_X11_turn, f_X11_isRise, (ha M).1, z_call_eq, if_pos rfl, z_call_eq, if_pos rfl]
    · rw [f_X12_turn, (ha M).2, z_call_eq, if_pos rfl]
