/-! registers -/
/-- references that may change: who is asked just now -/
def rfx (o k : Nat) : Bool := o == 37 || (o == 38 && k == 1) || (o == 39 && k == 1) || ((o == 21 || o == 29) && k == 12)
def FX (l : List Nat) (M M' : zM) : Prop := (∀ c, c ∉ l → M'.1 c = M.1 c) ∧ (∀ o k, rfx o k = false → M'.2.1 o k = M.2.1 o k)
theorem zRT_f : ∀ q ∈ zRT, rfx q.1 q.2.1 = false := by decide
theorem FX.st {l : List Nat} {M M' : zM} (h : FX l M M') (hS : ST M) : ST M' := fun q hq => by rw [h.2 _ _ (zRT_f q hq)]; exact hS q hq
theorem FX.rf {l : List Nat} {M : zM} : FX l M M := ⟨fun _ _ => rfl, fun _ _ _ => rfl⟩
theorem FX.tr {l : List Nat} {M M1 M2 : zM} (h1 : FX l M M1) (h2 : FX l M1 M2) : FX l M M2 := ⟨fun c hc => (h2.1 c hc).trans (h1.1 c hc), fun o k h => (h2.2 o k h).trans (h1.2 o k h)⟩
theorem FX.mono {l l' : List Nat} {M M' : zM} (h : FX l M M') (hl : ∀ c, c ∈ l → c ∈ l') : FX l' M M' := ⟨fun c hc => h.1 c (fun e => hc (hl c e)), h.2⟩
theorem Fr.X {l : List Nat} {M M' : zM} (h : Fr l M M') : FX l M M' := ⟨h.1, fun o k _ => by rw [h.2]⟩
theorem FX.ref {l : List Nat} {M : zM} {o k : Nat} {v : Option Nat} {L : zL} (h : rfx o k = true) : FX l M (M.1, zu M.2.1 o k v, L) := ⟨fun _ _ => rfl, fun o' k' h' => by
  show zu M.2.1 o k v o' k' = _
  by_cases e : o' = o
  · subst e
    by_cases e2 : k' = k
    · subst e2
      rw [h] at h'
      cases h'
    · rw [zu_ne _ _ _ e2]
  · rw [zu_cell _ _ _ e]⟩
def impL : List Nat := [0, 9, 10, 11, 12, 13, 14, 21, 22, 23, 24, 25, 26, 27, 29, 30, 31, 32, 33, 34, 35, 57, 65, 66, 67, 68, 69]
theorem Inv.mkX {M M2 : zM} {N' K : Nat → Nat} {l : List Nat} (hS : ST M) (hK : KP M K) (hL : LW M) (hF : FX l M M2) (hl : ∀ c ∈ impL, c ∉ l) (hR : NR N') (hN : MN M2 55 N') (hC : CS M2 3 N') (hT : TP M2) (e13 : M2.1 54 13 = M.1 54 13) (e41 : M2.1 54 41 = M.1 54 41) : Inv M2 := by
  have e : ∀ c, c ∈ impL → M2.1 c = M.1 c := fun c hc => hF.1 c (hl c hc)
  refine ⟨N', K, hF.st hS, hR, hN, hC, hK.to (by rw [e 0 (by decide)]) e41 (e 57 (by decide)) (fun c h1 h2 => e c ?_), hT, hL.to (hF.2 _ _ (by decide)) (hF.2 _ _ (by decide)) ?_ ⟨e 65 (by decide), e 66 (by decide), e 67 (by decide), e 68 (by decide), e 69 (by decide)⟩ e13⟩
  · unfold impL; simp; omega
  · intro q hq
    rcases hq with rfl | rfl
    · rw [e 21 (by decide)]
      exact ⟨rfl, rfl, e 22 (by decide), e 23 (by decide), e 24 (by decide), e 25 (by decide), e 26 (by decide), e 27 (by decide)⟩
    · rw [e 29 (by decide)]
      exact ⟨rfl, rfl, e 30 (by decide), e 31 (by decide), e 32 (by decide), e 33 (by decide), e 34 (by decide), e 35 (by decide)⟩
/-- a register's lines, so many at most, from a place on: what they do, where they end, the fault, how many -/
def rgo (B : Nat → Nat) (e : Nat) : Nat → (Nat → Nat) → Nat → (Nat → Nat) × Nat × Int32 × Nat
  | 0, N, p => (N, p, if isd B e p then flt 4 p else flt 1 p, 20)
  | m + 1, N, p => if (lnO B e N p).2.2 = 0 then (if e ≤ (lnO B e N p).2.1 then ((lnO B e N p).1, (lnO B e N p).2.1, 0, 20 - m) else if sg B e (lnO B e N p).2.1 = 59 then rgo B e m (lnO B e N p).1 ((lnO B e N p).2.1 + 1) else ((lnO B e N p).1, (lnO B e N p).2.1, flt 1 (lnO B e N p).2.1, 20 - m)) else ((lnO B e N p).1, (lnO B e N p).2.1, (lnO B e N p).2.2, 20 - m)
theorem rgo_R {B : Nat → Nat} {e : Nat} (he : e ≤ 260) : ∀ m N p, m ≤ 20 → NR N → p ≤ e → (rgo B e m N p).2.2.1 = 0 → NR (rgo B e m N p).1 := by
  intro m
  induction m with
  | zero =>
    intro N p hm hR hp h
    simp only [rgo] at h
    by_cases q : isd B e p = true
    · rw [if_pos q] at h
      exact absurd h (flt_nz (by omega) (by omega) (by omega))
    · rw [if_neg q] at h
      exact absurd h (flt_nz (by omega) (by omega) (by omega))
  | succ m ih =>
    intro N p hm hR hp h
    have hg := lnO_g (B := B) hR he hp
    unfold rgo at h ⊢
    by_cases q : (lnO B e N p).2.2 = 0
    · obtain ⟨g1, g2, g3⟩ := hg q
      rw [if_pos q] at h ⊢
      by_cases z : e ≤ (lnO B e N p).2.1
      · rw [if_pos z]; exact g1
      · rw [if_neg z] at h ⊢
        by_cases y : sg B e (lnO B e N p).2.1 = 59
        · rw [if_pos y] at h ⊢
          exact ih _ _ (by omega) g1 (by omega) h
        · rw [if_neg y] at h
          exact absurd h (flt_nz (by omega) (by omega) (by omega))
    · rw [if_neg q] at h
      exact absurd h q
theorem c_rgF {M : zM} {e p n x : Nat} {f : Int32} (hS : ST M) (hr : CR M e p f) (hf : f ≠ 0) (hx : x ≤ 21) : ∃ v, f_X6_read_7 39 (n + 1) (nI x) M = some (v, M) := by
  rw [f_X6_read_7]
  by_cases q : 20 < x
  · refine ⟨20, ?_⟩
    rw [if_pos (show (20 : Int32) < nI x from (nI_ltI (a := 20) (by omega) (by omega)).mpr q), (ST.a hS (o := 39) (k := 0) (a := 1) (by decide)), z_rd_eq, z_rd_eq, c_signF hr hf, z_call_eq, f_X10_isDigit, if_pos (by decide), z_call_eq, if_pos rfl, f_X6_read_66, (ST.a hS (o := 39) (k := 0) (a := 1) (by decide)), z_rd_eq, c_failF hr hf, z_call_eq]
  · refine ⟨nI x, ?_⟩
    rw [if_neg (show ¬ (20 : Int32) < nI x from nI_nlt (a := 20) (by omega) (by omega)), f_X6_doLine, c_readRoomF hS hr hf, z_call_eq, if_pos rfl, z_call_eq, (ST.a hS (o := 39) (k := 0) (a := 1) (by decide)), z_rd_eq, c_isOverF hr hf, z_call_eq, if_neg (by decide)]
theorem CR.sl {M : zM} {e p : Nat} {f : Int32} (h : CR M e p f) : M.1 1 2 = nI e := h.1
theorem c_rg {B : Nat → Nat} {e : Nat} (he : e ≤ 260) : ∀ m n N p (M : zM), m ≤ 20 → m + 1 < n → p ≤ e → ST M → M.2.1 39 1 = some 15 → TB M B → CR M e p 0 → CS M 15 N → NR N → ∃ v M', f_X6_read_7 39 n (nI (21 - m)) M = some (v, M') ∧ Fr rgC M M' ∧ CR M' e (rgo B e m N p).2.1 (rgo B e m N p).2.2.1 ∧ M'.1 1 1 = M.1 1 1 ∧ ((rgo B e m N p).2.2.1 = 0 → v = nI (rgo B e m N p).2.2.2 ∧ CS M' 15 (rgo B e m N p).1) := by
  intro m
  induction m with
  | zero =>
    intro n N p M hm hn hp hS h39 hB hr hC hR
    obtain ⟨n, rfl⟩ : ∃ k, n = k + 1 := ⟨n - 1, by omega⟩
    unfold rgo
    rw [f_X6_read_7, if_pos (by decide), (ST.a hS (o := 39) (k := 0) (a := 1) (by decide)), z_rd_eq, z_rd_eq, c_sign hS hB hr he (by omega), z_call_eq, c_isDigit hB.lt he, z_call_eq]
    by_cases q : isd B e p = true
    · have hnz : flt 4 p ≠ 0 := flt_nz (by omega) (by omega) (by omega)
      rw [if_pos q, if_neg (by decide), if_pos q, f_X6_read_66, (ST.a hS (o := 39) (k := 0) (a := 1) (by decide)), z_rd_eq, hr.2.1, show (4 : Int32) = nI 4 from rfl, c_faN hr, z_call_eq]
      exact ⟨_, _, rfl, tpM_fr.mono (by decide), tpM_cr hr, tpM_1 (by decide) (by decide), fun h => absurd h hnz⟩
    · have hnz : flt 1 p ≠ 0 := flt_nz (by omega) (by omega) (by omega)
      rw [if_neg q, if_pos rfl, if_neg q, f_X6_read_66, (ST.a hS (o := 39) (k := 0) (a := 1) (by decide)), z_rd_eq, hr.2.1, show (1 : Int32) = nI 1 from rfl, c_faN hr, z_call_eq]
      exact ⟨_, _, rfl, tpM_fr.mono (by decide), tpM_cr hr, tpM_1 (by decide) (by decide), fun h => absurd h hnz⟩
  | succ m ih =>
    intro n N p M hm hn hp hS h39 hB hr hC hR
    obtain ⟨n, rfl⟩ : ∃ k, n = k + 1 := ⟨n - 1, by omega⟩
    obtain ⟨M1, a1, a2, a3, a4, a5⟩ := c_doLine hS h39 hB hr he hp hC hR
    have hg := lnO_g (B := B) hR he hp
    have s1 := a2.st hS
    have b1 : TB M1 B := hB.to (a2.1 2 (by decide)) (a2.1 58 (by decide))
    rw [show 21 - (m + 1) = 20 - m by omega, f_X6_read_7, if_neg (show ¬ (20 : Int32) < nI (20 - m) from nI_nlt (a := 20) (by omega) (by omega)), a1, z_call_eq, (ST.a s1 (o := 39) (k := 0) (a := 1) (by decide)), z_rd_eq]
    unfold rgo
    generalize lnO B e N p = t at a3 a5 hg ⊢
    by_cases q : t.2.2 = 0
    · obtain ⟨g1, g2, g3⟩ := hg q
      rw [q] at a3
      rw [if_pos q, c_isOver a3 he (by omega), z_call_eq]
      by_cases z : e ≤ t.2.1
      · rw [if_neg (show ¬ t.2.1 < e by omega), if_neg (by decide), if_pos z]
        exact ⟨_, M1, rfl, a2, a3, a4, fun _ => ⟨rfl, a5⟩⟩
      · rw [if_pos (show t.2.1 < e by omega), if_pos rfl, if_neg z, (ST.a s1 (o := 39) (k := 0) (a := 1) (by decide)), z_rd_eq, c_expect s1 b1 a3 he (by omega), z_call_eq, zl_eq, nI_1]
        by_cases y : sg B e t.2.1 = 59
        · have f1 : Fr rgC M1 (tpM M1 (t.2.1 + 1) 0) := tpM_fr.mono (by decide)
          rw [if_pos y, if_pos y]
          obtain ⟨v, M2, c1, c2, c3, c4, c5⟩ := ih n t.1 (t.2.1 + 1) (tpM M1 (t.2.1 + 1) 0) (by omega) (by omega) (by omega) (f1.st s1) (by show M1.2.1 39 1 = _; rw [a2.2]; exact h39) (b1.to (tpM_o (by decide)) (tpM_o (by decide))) (tpM_cr a3) (a5.to (fun c h1 h2 => tpM_o (by omega))) g1
          rw [show 20 - m + 1 = 21 - m by omega]
          exact ⟨v, M2, c1, (a2.tr f1).tr c2, c3, by rw [c4, tpM_1 (by decide) (by decide)]; exact a4, c5⟩
        · have hnz : flt 1 t.2.1 ≠ 0 := flt_nz (by omega) (by omega) (by omega)
          have f1 : Fr rgC M1 (tpM M1 t.2.1 (flt 1 t.2.1)) := tpM_fr.mono (by decide)
          obtain ⟨n, rfl⟩ : ∃ k, n = k + 1 := ⟨n - 1, by omega⟩
          rw [if_neg y, if_neg y]
          obtain ⟨v, hv⟩ := c_rgF (n := n) (x := 20 - m + 1) (f1.st s1) (tpM_cr (q := t.2.1) (g := flt 1 t.2.1) a3) hnz (by omega)
          exact ⟨v, _, hv, a2.tr f1, tpM_cr a3, by rw [tpM_1 (by decide) (by decide)]; exact a4, fun h => absurd h hnz⟩
    · rw [if_neg q, c_isOverF a3 q, z_call_eq, if_neg (by decide)]
      exact ⟨_, M1, rfl, a2, a3, a4, fun h => absurd h q⟩
theorem m_rg86F {M : zM} {N0 : Nat → Nat} (hS : ST M) (hA : MN M 56 N0) : ∃ M', f_X12_register_86 54 0 M = some (M.1 54 7, M') ∧ MX [54, 55] [4] M M' ∧ M'.1 54 4 = nI 0 ∧ MN M' 55 N0 := by
  have x1 : MX [54, 55] [4] M (zu M.1 54 4 (nI 0), M.2) := MX.s54 (by simp) (by simp)
  have s1 := x1.1.st hS
  obtain ⟨M2, a1, a2, a3⟩ := m_copies (M := (zu M.1 54 4 (nI 0), M.2)) (a := 56) (b := 55) (N := N0) (by decide) ln56 ln55 (hA.off (by decide))
  refine ⟨M2, ?_, x1.tr ⟨a2.mono (by decide), fun j _ => by rw [a2.1 54 (by decide)]⟩, by rw [a2.1 54 (by decide)]; exact zu_same M.1 54 4 _, a3⟩
  rw [f_X12_register_86, zl_eq, if_pos rfl, show (zu M.1 54 4 0, M.2) = (zu M.1 54 4 (nI 0), M.2) from rfl, (ST.a s1 (o := 54) (k := 1) (a := 56) (by decide)), z_rd_eq, (ST.a s1 (o := 54) (k := 0) (a := 55) (by decide)), z_rd_eq, a1, z_call_eq, a2.1 54 (by decide)]
  show some (zu M.1 54 4 (nI 0) 54 7, M2) = _
  rw [zu_ne _ _ _ (by decide)]
theorem m_rg {B N0 : Nat → Nat} {e : Nat} (he : e ≤ 260) : ∀ m n N p (M : zM), m ≤ 20 → m + 1 < n → p ≤ e → ST M → TB M B → MR M e p → M.1 54 27 = nI (20 - m) → MN M 55 N → NR N → MN M 56 N0 → ∃ M', z_call (f_X12_readsLine 54 M) (fun v M1 => f_X12_register_46 54 n v M1) = some (if (rgo B e m N p).2.2.1 = 0 then nI (rgo B e m N p).2.2.2 else (rgo B e m N p).2.2.1, M') ∧ MX [54, 55] [4, 5, 7, 8, 27] M M' ∧ M'.1 54 4 = nI 0 ∧ MN M' 55 (if (rgo B e m N p).2.2.1 = 0 then (rgo B e m N p).1 else N0) := by
  have bad : ∀ (n : Nat) (M M1 : zM) (f : Int32), ST M1 → MN M1 56 N0 → MX [54, 55] [4, 5, 7, 8, 27] M M1 → f ≠ 0 → M1.1 54 7 = f → ∃ M', f_X12_register_46 54 (n + 1) 0 M1 = some (f, M') ∧ MX [54, 55] [4, 5, 7, 8, 27] M M' ∧ M'.1 54 4 = nI 0 ∧ MN M' 55 N0 := by
    intro n M M1 f s1 hA x1 hf h7
    obtain ⟨M2, a1, a2, a3, a4⟩ := m_rg86F s1 hA
    refine ⟨M2, ?_, x1.tr (a2.mono (by decide) (by decide)), a3, a4⟩
    rw [f_X12_register_46, if_pos rfl, a1, h7]
  intro m
  induction m with
  | zero =>
    intro n N p M hm hn hp hS hB hr h27 hN hR hA
    obtain ⟨n, rfl⟩ : ∃ k, n = k + 1 := ⟨n - 1, by omega⟩
    unfold rgo
    rw [f_X12_readsLine, m_isDigit hS hB hr he (by omega), z_call_eq]
    by_cases q : isd B e p = true
    · have hnz : flt 4 p ≠ 0 := flt_nz (by omega) (by omega) (by omega)
      have x1 : MX [54, 55] [4, 5, 7, 8, 27] M (zu M.1 54 7 (flt 4 p), M.2) := MX.s54 (by simp) (by simp)
      obtain ⟨M', c1, c2, c3, c4⟩ := bad n M (zu M.1 54 7 (flt 4 p), M.2) (flt 4 p) (x1.1.st hS) (hA.off (by decide)) x1 hnz (zu_same M.1 54 7 _)
      refine ⟨M', ?_, c2, c3, ?_⟩
      · rw [if_pos q, if_neg (by decide), h27, if_pos (by decide), hr.1, show (4 : Int32) = nI 4 from rfl, m_wrN, z_call_eq, if_pos (Or.inl rfl), z_call_eq, if_pos q, if_neg hnz]
        exact c1
      · rw [if_pos q, if_neg hnz]; exact c4
    · have hnz : flt 1 p ≠ 0 := flt_nz (by omega) (by omega) (by omega)
      have x1 : MX [54, 55] [4, 5, 7, 8, 27] M (zu M.1 54 7 (flt 1 p), M.2) := MX.s54 (by simp) (by simp)
      obtain ⟨M', c1, c2, c3, c4⟩ := bad n M (zu M.1 54 7 (flt 1 p), M.2) (flt 1 p) (x1.1.st hS) (hA.off (by decide)) x1 hnz (zu_same M.1 54 7 _)
      refine ⟨M', ?_, c2, c3, ?_⟩
      · rw [if_neg q, if_pos rfl, hr.1, show (1 : Int32) = nI 1 from rfl, m_wrN, z_call_eq, if_pos (Or.inl rfl), z_call_eq, if_neg q, if_neg hnz]
        exact c1
      · rw [if_neg q, if_neg hnz]; exact c4
  | succ m ih =>
    intro n N p M hm hn hp hS hB hr h27 hN hR hA
    obtain ⟨n, rfl⟩ : ∃ k, n = k + 1 := ⟨n - 1, by omega⟩
    obtain ⟨M1, a1, a2, a3, a4⟩ := m_readsLine hS hB hr he hp hN hR h27 (by omega)
    have hg := lnO_g (B := B) hR he hp
    have s1 := a2.1.st hS
    have x1 : MX [54, 55] [4, 5, 7, 8, 27] M M1 := a2.mono (by decide) (by decide)
    have b1 : TB M1 B := hB.to (a2.1.1 2 (by decide)) (a2.1.1 58 (by decide))
    have A1 : MN M1 56 N0 := hA.to (a2.1.1 56 (by decide))
    unfold rgo
    rw [a1, z_call_eq]
    generalize lnO B e N p = t at a3 a4 hg ⊢
    by_cases q : t.2.2 = 0
    · obtain ⟨g1, g2, g3⟩ := hg q
      obtain ⟨k1, k2, k3⟩ := a3 q
      rw [if_pos q, if_pos q, f_X12_register_46, if_neg (by decide), k1.1, k1.2]
      by_cases z : e ≤ t.2.1
      · rw [if_pos ((nI_leI (by omega) (by omega)).mpr z), if_pos z, f_X12_register_86, zl_eq, if_neg (by decide)]
        have x2 : MX [54, 55] [4, 5, 7, 8, 27] M1 (zu M1.1 54 4 0, M1.2) := MX.s54 (by simp) (by simp)
        refine ⟨(zu M1.1 54 4 0, M1.2), ?_, x1.tr x2, zu_same M1.1 54 4 _, ?_⟩
        · show some (zu M1.1 54 4 0 54 27, _) = some (if (0 : Int32) = 0 then nI (20 - m) else 0, _)
          rw [zu_ne _ _ _ (by decide), k3, if_pos rfl, show 20 - (m + 1) + 1 = 20 - m by omega]
        · show MN _ 55 (if (0 : Int32) = 0 then t.1 else N0)
          rw [if_pos rfl]
          exact k2.off (by decide)
      · rw [if_neg (nI_ge (by omega) (by omega)), if_neg z, m_takes s1 b1 k1 he (by omega)]
        by_cases y : sg B e t.2.1 = 59
        · have x2 : MX [54, 55] [4, 5, 7, 8, 27] M1 (zu M1.1 54 5 (nI (t.2.1 + 1)), M1.2) := MX.s54 (by simp) (by simp)
          have s2 := x2.1.st s1
          rw [if_pos y, if_pos y, z_call_eq, if_neg (by decide)]
          have h27' : (zu M1.1 54 5 (nI (t.2.1 + 1)), M1.2).1 54 27 = nI (20 - m) := by
            show zu M1.1 54 5 (nI (t.2.1 + 1)) 54 27 = _
            rw [zu_ne _ _ _ (by decide), k3, show 20 - (m + 1) + 1 = 20 - m by omega]
          obtain ⟨M2, c1, c2, c3, c4⟩ := ih n t.1 (t.2.1 + 1) (zu M1.1 54 5 (nI (t.2.1 + 1)), M1.2) (by omega) (by omega) (by omega) s2 (b1.to (x2.1.1 2 (by decide)) (x2.1.1 58 (by decide))) (m_stp k1) h27' (k2.off (by decide)) g1 (A1.off (by decide))
          refine ⟨M2, ?_, (x1.tr x2).tr c2, c3, c4⟩
          rw [← c1]
          have hv : ∃ v M3, f_X12_readsLine 54 (zu M1.1 54 5 (nI (t.2.1 + 1)), M1.2) = some (v, M3) ∧ (v = 0 ∨ v = 1) := by
            cases m with
            | zero =>
              rw [f_X12_readsLine, m_isDigit s2 (b1.to (x2.1.1 2 (by decide)) (x2.1.1 58 (by decide))) (m_stp k1) he (by omega), z_call_eq]
              by_cases w : isd B e (t.2.1 + 1) = true
              · rw [if_pos w, if_neg (by decide), h27', if_pos (by decide), m_wrong, z_call_eq, if_pos (Or.inl rfl)]
                exact ⟨0, _, rfl, Or.inl rfl⟩
              · rw [if_neg w, if_pos rfl, m_wrong, z_call_eq, if_pos (Or.inl rfl)]
                exact ⟨0, _, rfl, Or.inl rfl⟩
            | succ m =>
              obtain ⟨M3, d1, _⟩ := m_readsLine (j := 20 - (m + 1)) s2 (b1.to (x2.1.1 2 (by decide)) (x2.1.1 58 (by decide))) (m_stp k1) he (by omega) (k2.off (by decide)) g1 h27' (by omega)
              refine ⟨_, M3, d1, ?_⟩
              by_cases w : (lnO B e t.1 (t.2.1 + 1)).2.2 = 0
              · rw [if_pos w]; exact Or.inr rfl
              · rw [if_neg w]; exact Or.inl rfl
          obtain ⟨v, M3, d1, d2⟩ := hv
          rw [d1, z_call_eq, z_call_eq]
          rcases d2 with rfl | rfl
          · rw [if_pos rfl, f_X12_register_81, f_X12_register_82]
          · rw [if_neg (by decide), f_X12_register_82]
        · have hnz : flt 1 t.2.1 ≠ 0 := flt_nz (by omega) (by omega) (by omega)
          have x2 : MX [54, 55] [4, 5, 7, 8, 27] M1 (zu M1.1 54 7 (flt 1 t.2.1), M1.2) := MX.s54 (by simp) (by simp)
          obtain ⟨n, rfl⟩ : ∃ k, n = k + 1 := ⟨n - 1, by omega⟩
          obtain ⟨M', c1, c2, c3, c4⟩ := bad n M (zu M1.1 54 7 (flt 1 t.2.1), M1.2) (flt 1 t.2.1) (x2.1.st s1) (A1.off (by decide)) (x1.tr x2) hnz (zu_same M1.1 54 7 _)
          refine ⟨M', ?_, c2, c3, ?_⟩
          · rw [if_neg y, if_neg y, z_call_eq, if_pos rfl, f_X12_register_81, f_X12_register_82]
            show _ = some (if flt 1 t.2.1 = 0 then _ else flt 1 t.2.1, M')
            rw [if_neg hnz]
            exact c1
          · rw [if_neg y]
            show MN M' 55 (if flt 1 t.2.1 = 0 then t.1 else N0)
            rw [if_neg hnz]
            exact c4
    · obtain ⟨M', c1, c2, c3, c4⟩ := bad n M M1 t.2.2 s1 A1 x1 q (a4 q)
      refine ⟨M', ?_, c2, c3, ?_⟩
      · rw [if_neg q, if_neg q]
        show _ = some (if t.2.2 = 0 then _ else t.2.2, M')
        rw [if_neg q]
        exact c1
      · rw [if_neg q]
        show MN M' 55 (if t.2.2 = 0 then t.1 else N0)
        rw [if_neg q]
        exact c4
