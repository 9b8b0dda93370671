/-! a line of a register -/
/-- behind the room r, at the sign at a: what the line does, where it ends, its fault -/
def lnS (B : Nat → Nat) (e : Nat) (N : Nat → Nat) (r a : Nat) : (Nat → Nat) × Nat × Int32 :=
  if sg B e a = 33 then (if N r = 0 then (N, a + 1, flt 7 a) else (gst N r 0 0, a + 1, 0))
  else if sg B e a = 60 then (va_up N (72 + r) 0, a + 1, 0)
  else if sg B e a = 61 then (if nmF B e 4 (a + 1) = 0 then (gst N r 1 (nmN B e 4 (a + 1)), a + 1 + rl B e 4 (a + 1), 0) else (N, a + 1 + rl B e 4 (a + 1), nmF B e 4 (a + 1)))
  else if sg B e a = 62 then (va_up N (72 + r) 2, a + 1, 0)
  else if sg B e a = 64 then (if rmF B e (a + 1) = 0 then (if N r = 0 ∧ N (nmN B e 2 (a + 1)) = 0 then (N, a + 1 + rl B e 2 (a + 1), flt 7 a) else (exg N r (nmN B e 2 (a + 1)), a + 1 + rl B e 2 (a + 1), 0)) else (N, a + 1 + rl B e 2 (a + 1), rmF B e (a + 1)))
  else if sg B e a = 111 then (va_up N (48 + r) 1, a + 1, 0)
  else if sg B e a = 115 then (va_up N (48 + r) 0, a + 1, 0)
  else if sg B e a = 124 then (va_up N (72 + r) 1, a + 1, 0)
  else (N, a + 1, flt 1 a)
def lnO (B : Nat → Nat) (e : Nat) (N : Nat → Nat) (p : Nat) : (Nat → Nat) × Nat × Int32 := if rmF B e p = 0 then lnS B e N (nmN B e 2 p) (p + rl B e 2 p) else (N, p + rl B e 2 p, rmF B e p)
/-- a good line goes on, and keeps the ranges -/
def GL (e p : Nat) (t : (Nat → Nat) × Nat × Int32) : Prop := t.2.2 = 0 → NR t.1 ∧ p < t.2.1 ∧ t.2.1 ≤ e
theorem lnS_g {B N : Nat → Nat} {e r a : Nat} (hR : NR N) (hr : r < 24) (he : e ≤ 260) (ha : a ≤ e) : GL e a (lnS B e N r a) := by
  unfold lnS
  by_cases h33 : sg B e a = 33
  · have hl := sg_lt h33 (by decide)
    rw [if_pos h33]
    by_cases q : N r = 0
    · rw [if_pos q]; exact fun h => absurd h (flt_nz (by omega) (by omega) (by omega))
    · rw [if_neg q]; exact fun _ => ⟨hR.gsts hr (by omega) (by omega) (fun _ => rfl), by show a < a + 1; omega, by show a + 1 ≤ e; omega⟩
  rw [if_neg h33]
  by_cases h60 : sg B e a = 60
  · have hl := sg_lt h60 (by decide)
    rw [if_pos h60]; exact fun _ => ⟨hR.lou (by omega) (by omega) (by omega), by show a < a + 1; omega, by show a + 1 ≤ e; omega⟩
  rw [if_neg h60]
  by_cases h61 : sg B e a = 61
  · have hl := sg_lt h61 (by decide)
    have h4 := vl_b4 (B := B) (e := e) (p := a + 1) (d := 4) (by omega)
    have h5 := rl_e (B := B) (e := e) 4 (a + 1) (by omega)
    rw [if_pos h61]
    by_cases q : nmF B e 4 (a + 1) = 0
    · rw [if_pos q]; exact fun _ => ⟨hR.gsts hr (by omega) (by unfold nmN; omega) (by omega), by show a < a + 1 + _; omega, by show a + 1 + _ ≤ e; omega⟩
    · rw [if_neg q]; exact fun h => absurd h q
  rw [if_neg h61]
  by_cases h62 : sg B e a = 62
  · have hl := sg_lt h62 (by decide)
    rw [if_pos h62]; exact fun _ => ⟨hR.lou (by omega) (by omega) (by omega), by show a < a + 1; omega, by show a + 1 ≤ e; omega⟩
  rw [if_neg h62]
  by_cases h64 : sg B e a = 64
  · have hl := sg_lt h64 (by decide)
    have h5 := rl_e (B := B) (e := e) 2 (a + 1) (by omega)
    rw [if_pos h64]
    by_cases q : rmF B e (a + 1) = 0
    · have hq := (rmF_0 (by omega) he q).2.1
      rw [if_pos q]
      by_cases z : N r = 0 ∧ N (nmN B e 2 (a + 1)) = 0
      · rw [if_pos z]; exact fun h => absurd h (flt_nz (by omega) (by omega) (by omega))
      · rw [if_neg z]; exact fun _ => ⟨hR.exg hr hq, by show a < a + 1 + _; omega, by show a + 1 + _ ≤ e; omega⟩
    · rw [if_neg q]; exact fun h => absurd h q
  rw [if_neg h64]
  by_cases h111 : sg B e a = 111
  · have hl := sg_lt h111 (by decide)
    rw [if_pos h111]; exact fun _ => ⟨hR.opn (by omega) (by omega) (by omega), by show a < a + 1; omega, by show a + 1 ≤ e; omega⟩
  rw [if_neg h111]
  by_cases h115 : sg B e a = 115
  · have hl := sg_lt h115 (by decide)
    rw [if_pos h115]; exact fun _ => ⟨hR.opn (by omega) (by omega) (by omega), by show a < a + 1; omega, by show a + 1 ≤ e; omega⟩
  rw [if_neg h115]
  by_cases h124 : sg B e a = 124
  · have hl := sg_lt h124 (by decide)
    rw [if_pos h124]; exact fun _ => ⟨hR.lou (by omega) (by omega) (by omega), by show a < a + 1; omega, by show a + 1 ≤ e; omega⟩
  rw [if_neg h124]
  exact fun h => absurd h (flt_nz (by omega) (by omega) (by omega))
theorem lnO_g {B N : Nat → Nat} {e p : Nat} (hR : NR N) (he : e ≤ 260) (hp : p ≤ e) : GL e p (lnO B e N p) := by
  have h5 := rl_e (B := B) (e := e) 2 p hp
  unfold lnO
  by_cases q : rmF B e p = 0
  · rw [if_pos q]
    intro h
    have h1 := lnS_g (B := B) hR (rmF_0 hp he q).2.1 he h5 h
    exact ⟨h1.1, by omega, h1.2.2⟩
  · rw [if_neg q]
    exact fun h => absurd h q
def rgC : List Nat := [1, 15, 16, 17, 18, 19, 20]
theorem nI_nz {a : Nat} (h : ¬ a = 0) (ha : a < 2 ^ 31) : ¬ nI a = 0 := fun e => h ((nI_eq (b := 0) ha (by omega)).mp e)
/-- what the class has done with a line -/
def LNc (e : Nat) (M M' : zM) (o : Option (Unit × zM)) (t : (Nat → Nat) × Nat × Int32) : Prop := o = some ((), M') ∧ Fr rgC M M' ∧ CR M' e t.2.1 t.2.2 ∧ M'.1 1 1 = M.1 1 1 ∧ CS M' 15 t.1
theorem CR.fr {M M' : zM} {l : List Nat} {e p : Nat} {f : Int32} (h : CR M e p f) (hF : Fr l M M') (hl : 1 ∉ l) : CR M' e p f := by
  unfold CR
  rw [hF.1 1 hl]
  exact h
theorem shc_rg {M M' : zM} (h : Fr (shc 15) M M') : Fr rgC M M' := h.mono (by decide)
theorem c_doLine {M : zM} {B N : Nat → Nat} {e p : Nat} (hS : ST M) (h39 : M.2.1 39 1 = some 15) (hB : TB M B) (hr : CR M e p 0) (he : e ≤ 260) (hp : p ≤ e) (hC : CS M 15 N) (hR : NR N) : ∃ M', LNc e M M' (f_X6_doLine 39 M) (lnO B e N p) := by
  have h5 := rl_e (B := B) (e := e) 2 p hp
  have s1 : ∀ q f, ST (tpM M q f) := fun q f => hS.to rfl
  have b1 : ∀ q f, TB (tpM M q f) B := fun q f => hB.to (tpM_o (by decide)) (tpM_o (by decide))
  have cs : ∀ q f, CS (tpM M q f) 15 N := fun q f => hC.to (fun c h1 h2 => tpM_o (by omega))
  have fr : ∀ q f, Fr rgC M (tpM M q f) := fun q f => tpM_fr.mono (by decide)
  have m11 : ∀ q f, (tpM M q f).1 1 1 = M.1 1 1 := fun q f => tpM_1 (by decide) (by decide)
  have dn : ∀ q f, LNc e M (tpM M q f) (some ((), tpM M q f)) (N, q, f) := fun q f => ⟨rfl, fr q f, tpM_cr hr, m11 q f, cs q f⟩
  rw [f_X6_doLine, c_readRoom hS hB hr he hp, z_call_eq]
  unfold lnO
  by_cases q : rmF B e p = 0
  · have hrr := (rmF_0 hp he q).2.1
    have hra : CR (tpM M (p + rl B e 2 p) 0) e (p + rl B e 2 p) 0 := tpM_cr hr
    rw [if_pos q, if_pos q, if_neg (nI_m1 (by omega)), q, (ST.a (s1 (p + rl B e 2 p) 0) (o := 39) (k := 0) (a := 1) (by decide)), z_rd_eq, zl_eq, z_rd_eq, c_sign (s1 _ _) (b1 _ _) hra he (by omega), z_call_eq, (ST.a (s1 (p + rl B e 2 p) 0) (o := 39) (k := 0) (a := 1) (by decide)), z_rd_eq, c_step hra, z_call_eq, tpM_tpM, hra.2.1]
    generalize hr0 : nmN B e 2 p = r at hrr ⊢
    generalize ha0 : p + rl B e 2 p = a at h5 hra ⊢
    have h39' : (tpM M (a + 1) 0).2.1 39 1 = some 15 := h39
    have cr1 : CR (tpM M (a + 1) 0) e (a + 1) 0 := tpM_cr hr
    -- a shaft's change behind the sign
    have ch : ∀ M' N', Fr (shc 15) (tpM M (a + 1) 0) M' → CS M' 15 N' → LNc e M M' (some ((), M')) (N', a + 1, 0) := fun M' N' f c => ⟨rfl, (fr _ _).tr (shc_rg f), cr1.fr f (by decide), by rw [f.1 1 (by decide)]; exact m11 _ _, c⟩
    unfold lnS
    by_cases h33 : sg B e a = 33
    · rw [if_pos h33, if_pos h33, f_X6_sendAway, h39', z_rd_eq, c_hasGuest (cs _ _) hR hrr, z_call_eq]
      have hg := hR.1 r hrr
      by_cases z : N r = 0
      · rw [if_pos (show nI (N r) = 0 by rw [z]; rfl), (ST.a (s1 (a + 1) 0) (o := 39) (k := 0) (a := 1) (by decide)), z_rd_eq, show (7 : Int32) = nI 7 from rfl, c_faN cr1, z_call_eq, z_call_eq, if_pos z, tpM_tpM]
        exact ⟨_, dn _ _⟩
      · obtain ⟨M', i1, i2, i3⟩ := c_sendAway hO15 (s1 (a + 1) 0) (cs _ _) hR hrr
        rw [if_neg (nI_nz z (by omega)), h39', z_rd_eq, i1, z_call_eq, z_call_eq, if_neg z]
        exact ⟨_, ch _ _ i2 i3⟩
    rw [if_neg h33, if_neg h33]
    by_cases h60 : sg B e a = 60
    · rw [if_pos h60, if_pos h60, h39', z_rd_eq, show (0 : Int32) = nI 0 from rfl, c_setLouvre hO15 (s1 _ _) (cs _ _) hrr, z_call_eq]
      exact ⟨_, ch _ _ (Fr.zu (by decide)) ((cs _ _).lou hrr)⟩
    rw [if_neg h60, if_neg h60]
    by_cases h61 : sg B e a = 61
    · have hl := sg_lt h61 (by decide)
      rw [if_pos h61, if_pos h61, f_X6_takeIn, (ST.a (s1 (a + 1) 0) (o := 39) (k := 0) (a := 1) (by decide)), z_rd_eq, show (4 : Int32) = nI 4 from rfl, c_number (s1 _ _) (b1 _ _) cr1 he (by omega) (by omega) (by omega), z_call_eq]
      have hb4 := vl_b4 (B := B) (e := e) (p := a + 1) (d := 4) (by omega)
      by_cases z : nmF B e 4 (a + 1) = 0
      · rw [if_pos z, if_neg (nI_m1 (by unfold nmN; omega)), z, tpM_tpM, show (tpM M (a + 1 + rl B e 4 (a + 1)) 0).2.1 39 1 = some 15 from h39, z_rd_eq, if_pos rfl]
        obtain ⟨M', i1, i2, i3⟩ := c_takeIn (s := nmN B e 4 (a + 1)) hO15 (s1 (a + 1 + rl B e 4 (a + 1)) 0) (cs _ _) hR hrr
        rw [i1, z_call_eq, z_call_eq]
        have cr2 : CR (tpM M (a + 1 + rl B e 4 (a + 1)) 0) e (a + 1 + rl B e 4 (a + 1)) 0 := tpM_cr hr
        exact ⟨M', rfl, (fr _ _).tr (shc_rg i2), cr2.fr i2 (by decide), by rw [i2.1 1 (by decide)]; exact m11 _ _, i3⟩
      · rw [if_neg z, if_pos rfl, if_neg z, z_call_eq, tpM_tpM]
        exact ⟨_, dn _ _⟩
    rw [if_neg h61, if_neg h61]
    by_cases h62 : sg B e a = 62
    · rw [if_pos h62, if_pos h62, h39', z_rd_eq, show (2 : Int32) = nI 2 from rfl, c_setLouvre hO15 (s1 _ _) (cs _ _) hrr, z_call_eq]
      exact ⟨_, ch _ _ (Fr.zu (by decide)) ((cs _ _).lou hrr)⟩
    rw [if_neg h62, if_neg h62]
    by_cases h64 : sg B e a = 64
    · have hl := sg_lt h64 (by decide)
      rw [if_pos h64, if_pos h64, f_X6_exchange, c_readRoom (s1 _ _) (b1 _ _) cr1 he (by omega), z_call_eq, tpM_tpM]
      by_cases z : rmF B e (a + 1) = 0
      · have hqq := (rmF_0 (by omega) he z).2.1
        rw [if_pos z, if_neg (nI_m1 (by omega)), z, if_pos rfl]
        generalize nmN B e 2 (a + 1) = q2 at hqq ⊢
        generalize a + 1 + rl B e 2 (a + 1) = a2
        have g1 := hR.1 r hrr
        have g2 := hR.1 q2 hqq
        have h39'' : (tpM M a2 0).2.1 39 1 = some 15 := h39
        have cr2 : CR (tpM M a2 0) e a2 0 := tpM_cr hr
        obtain ⟨M', i1, i2, i3⟩ := c_exchange hO15 (s1 a2 0) (cs _ _) hR hrr hqq
        have e33 : f_X6_exchange_33 39 (nI r) (nI q2) (tpM M a2 0) = some ((), M') := by rw [f_X6_exchange_33, h39'', z_rd_eq, i1, z_call_eq]
        have fin : LNc e M M' (some ((), M')) (exg N r q2, a2, 0) := ⟨rfl, (fr _ _).tr (shc_rg i2), cr2.fr i2 (by decide), by rw [i2.1 1 (by decide)]; exact m11 _ _, i3⟩
        rw [h39'', z_rd_eq, c_hasGuest (cs _ _) hR hrr, z_call_eq]
        by_cases y1 : N r = 0
        · rw [if_pos (show nI (N r) = 0 by rw [y1]; rfl), h39'', z_rd_eq, c_hasGuest (cs _ _) hR hqq, z_call_eq]
          by_cases y2 : N q2 = 0
          · rw [if_pos (show nI (N q2) = 0 by rw [y2]; rfl), (ST.a (s1 a2 0) (o := 39) (k := 0) (a := 1) (by decide)), z_rd_eq, show (7 : Int32) = nI 7 from rfl, c_faN cr2, z_call_eq, z_call_eq, if_pos ⟨y1, y2⟩, tpM_tpM]
            exact ⟨_, dn _ _⟩
          · rw [if_neg (nI_nz y2 (by omega)), e33, z_call_eq, if_neg (fun h => y2 h.2)]
            exact ⟨M', fin⟩
        · rw [if_neg (nI_nz y1 (by omega)), e33, z_call_eq, if_neg (fun h => y1 h.1)]
          exact ⟨M', fin⟩
      · rw [if_neg z, if_pos rfl, if_neg z, z_call_eq]
        exact ⟨_, dn _ _⟩
    rw [if_neg h64, if_neg h64]
    by_cases h111 : sg B e a = 111
    · rw [if_pos h111, if_pos h111, h39', z_rd_eq, show (1 : Int32) = nI 1 from rfl, c_setGrille (cs _ _) hR hrr (by omega), z_call_eq]
      exact ⟨_, ch _ _ (Fr.zu (by decide)) ((cs _ _).opn hrr)⟩
    rw [if_neg h111, if_neg h111]
    by_cases h115 : sg B e a = 115
    · rw [if_pos h115, if_pos h115, h39', z_rd_eq, show (0 : Int32) = nI 0 from rfl, c_setGrille (cs _ _) hR hrr (by omega), z_call_eq]
      exact ⟨_, ch _ _ (Fr.zu (by decide)) ((cs _ _).opn hrr)⟩
    rw [if_neg h115, if_neg h115]
    by_cases h124 : sg B e a = 124
    · rw [if_pos h124, if_pos h124, h39', z_rd_eq, show (1 : Int32) = nI 1 from rfl, c_setLouvre hO15 (s1 _ _) (cs _ _) hrr, z_call_eq]
      exact ⟨_, ch _ _ (Fr.zu (by decide)) ((cs _ _).lou hrr)⟩
    rw [if_neg h124, if_neg h124, (ST.a (s1 (a + 1) 0) (o := 39) (k := 0) (a := 1) (by decide)), z_rd_eq, show (1 : Int32) = nI 1 from rfl, c_faN cr1, z_call_eq, tpM_tpM]
    exact ⟨_, dn _ _⟩
  · rw [if_neg q, if_pos rfl, if_neg q]
    exact ⟨_, dn _ _⟩
