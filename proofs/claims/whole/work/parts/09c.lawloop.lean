def ok_guest (Inv : zM → Prop) : Prop := ∀ (M : zM), Inv M → ∀ (a : Int32) (b : Int32), ∃ (v : Int32) (M1 M2 : zM), f_X11_guest 0 a b M = some (v, M1) ∧ f_X12_guest 54 a b M1 = some (v, M2) ∧ Inv M2
def ok_grille (Inv : zM → Prop) : Prop := ∀ (M : zM), Inv M → ∀ (a : Int32) (b : Int32), (b = 0 ∨ b = 1) → ∃ (v : Int32) (M1 M2 : zM), f_X11_grille 0 a b M = some (v, M1) ∧ f_X12_grille 54 a b M1 = some (v, M2) ∧ Inv M2
def ok_louvre (Inv : zM → Prop) : Prop := ∀ (M : zM), Inv M → ∀ (a : Int32) (b : Int32), ∃ (v : Int32) (M1 M2 : zM), f_X11_louvre 0 a b M = some (v, M1) ∧ f_X12_louvre 54 a b M1 = some (v, M2) ∧ Inv M2
def ok_feed (Inv : zM → Prop) : Prop := ∀ (M : zM), Inv M → ∀ (a : Int32) (b : Int32) (c : Int32) (d : Int32) (e : Int32), ∃ (v : Int32) (M1 M2 : zM), f_X11_feed 0 a b c d e M = some (v, M1) ∧ f_X12_feed 54 a b c d e M1 = some (v, M2) ∧ Inv M2
def ok_law (Inv : zM → Prop) : Prop := ∀ (M : zM), Inv M → ∀ (a : Int32), ∃ (v : Int32) (M1 M2 : zM), f_X11_law 0 a M = some (v, M1) ∧ f_X12_law 54 a M1 = some (v, M2) ∧ Inv M2
def ok_register (Inv : zM → Prop) : Prop := ∀ (M : zM), Inv M → ∀ (a : Int32), ∃ (v : Int32) (M1 M2 : zM), f_X11_register 0 a M = some (v, M1) ∧ f_X12_register 54 a M1 = some (v, M2) ∧ Inv M2
def ok_hours (Inv : zM → Prop) : Prop := ∀ (M : zM), Inv M → ∀ (a : Int32), ∃ (v : Int32) (M1 M2 : zM), f_X11_hours 0 a M = some (v, M1) ∧ f_X12_hours 54 a M1 = some (v, M2) ∧ Inv M2
def ok_tried (Inv : zM → Prop) : Prop := ∀ (M : zM), Inv M → ∀ (a : Int32) (b : Int32), ∃ (v : Int32) (M1 M2 : zM), f_X11_tried 0 a b M = some (v, M1) ∧ f_X12_tried 54 a b M1 = some (v, M2) ∧ Inv M2
def ok_roomIs (Inv : zM → Prop) : Prop := ∀ (M : zM), Inv M → ∀ (a : Int32) (b : Int32), ∃ (v : Int32) (M1 M2 : zM), f_X11_roomIs 0 a b M = some (v, M1) ∧ f_X12_roomIs 54 a b M1 = some (v, M2) ∧ Inv M2
def ok_feels (Inv : zM → Prop) : Prop := ∀ (M : zM), Inv M → ∀ (a : Int32) (b : Int32), ∃ (v : Int32) (M1 M2 : zM), f_X11_feels 0 a b M = some (v, M1) ∧ f_X12_feels 54 a b M1 = some (v, M2) ∧ Inv M2
def ok_way (Inv : zM → Prop) : Prop := ∀ (M : zM), Inv M → ∀ (a : Int32) (b : Int32), ∃ (v : Int32) (M1 M2 : zM), f_X11_way 0 a b M = some (v, M1) ∧ f_X12_way 54 a b M1 = some (v, M2) ∧ Inv M2
def ok_odds (Inv : zM → Prop) : Prop := ∀ (M : zM), Inv M → ∀ (a : Int32) (b : Int32) (c : Int32) (d : Int32), ∃ (v : Int32) (M1 M2 : zM), f_X11_odds 0 a b c d M = some (v, M1) ∧ f_X12_odds 54 a b c d M1 = some (v, M2) ∧ Inv M2
def ok_fromWhere (Inv : zM → Prop) : Prop := ∀ (M : zM), Inv M → ∀ (a : Int32), ∃ (v : Int32) (M1 M2 : zM), f_X11_fromWhere 0 a M = some (v, M1) ∧ f_X12_fromWhere 54 a M1 = some (v, M2) ∧ Inv M2
def ok_meet (Inv : zM → Prop) : Prop := ∀ (M : zM), Inv M → ∀ (a : Int32) (b : Int32), ∃ (v : Int32) (M1 M2 : zM), f_X11_meet 0 a b M = some (v, M1) ∧ f_X12_meet 54 a b M1 = some (v, M2) ∧ Inv M2
def ok_cowls (Inv : zM → Prop) : Prop := ∀ (M : zM), Inv M → ∀ (_ : Unit), ∃ (v : Int32) (M1 M2 : zM), f_X11_cowls 0  M = some (v, M1) ∧ f_X12_cowls 54  M1 = some (v, M2) ∧ Inv M2
def ok_turn (Inv : zM → Prop) : Prop := ∀ (M : zM), Inv M → ∀ (a : Int32) (b : Int32) (c : Int32), ∃ (v : Int32) (M1 M2 : zM), f_X11_turn 0 a b c M = some (v, M1) ∧ f_X12_turn 54 a b c M1 = some (v, M2) ∧ Inv M2
def ok_ways (Inv : zM → Prop) : Prop := ∀ (M : zM), Inv M → ∀ (a : Int32) (b : Int32), ∃ (v : Int32) (M1 M2 : zM), f_X11_ways 0 a b M = some (v, M1) ∧ f_X12_ways 54 a b M1 = some (v, M2) ∧ Inv M2
def ok_stockings (Inv : zM → Prop) : Prop := ∀ (M : zM), Inv M → ∀ (a : Int32) (b : Int32), ∃ (v : Int32) (M1 M2 : zM), f_X11_stockings 0 a b M = some (v, M1) ∧ f_X12_stockings 54 a b M1 = some (v, M2) ∧ Inv M2
def ok_sleep (Inv : zM → Prop) : Prop := ∀ (M : zM), Inv M → ∀ (a : Int32) (b : Int32) (c : Int32), ∃ (v : Int64) (M1 M2 : zM), f_X11_sleep 0 a b c M = some (v, M1) ∧ f_X12_sleep 54 a b c M1 = some (v, M2) ∧ Inv M2
def ok_breakfast (Inv : zM → Prop) : Prop := ∀ (M : zM), Inv M → ∀ (a : Int32), ∃ (v : Int32) (M1 M2 : zM), f_X11_breakfast 0 a M = some (v, M1) ∧ f_X12_breakfast 54 a M1 = some (v, M2) ∧ Inv M2
def ok_ropes (Inv : zM → Prop) : Prop := ∀ (M : zM), Inv M → ∀ (a : Int32) (b : Int32) (c : Int32), ∃ (v : Int32) (M1 M2 : zM), f_X11_ropes 0 a b c M = some (v, M1) ∧ f_X12_ropes 54 a b c M1 = some (v, M2) ∧ Inv M2
def ok_taps (Inv : zM → Prop) : Prop := ∀ (M : zM), Inv M → ∀ (a : Int32) (b : Int32), ∃ (v : Int32) (M1 M2 : zM), f_X11_taps 0 a b M = some (v, M1) ∧ f_X12_taps 54 a b M1 = some (v, M2) ∧ Inv M2
def ok_tapped (Inv : zM → Prop) : Prop := ∀ (M : zM), Inv M → ∀ (a : Int32), ∃ (v : Int32) (M1 M2 : zM), f_X11_tapped 0 a M = some (v, M1) ∧ f_X12_tapped 54 a M1 = some (v, M2) ∧ Inv M2
def ok_linen (Inv : zM → Prop) : Prop := ∀ (M : zM), Inv M → ∀ (a : Int32) (b : Int32) (c : Int32), ∃ (v : Int32) (M1 M2 : zM), f_X11_linen 0 a b c M = some (v, M1) ∧ f_X12_linen 54 a b c M1 = some (v, M2) ∧ Inv M2
def ok_dust (Inv : zM → Prop) : Prop := ∀ (M : zM), Inv M → ∀ (a : Int32), ∃ (v : Int32) (M1 M2 : zM), f_X11_dust 0 a M = some (v, M1) ∧ f_X12_dust 54 a M1 = some (v, M2) ∧ Inv M2
def ok_seed (Inv : zM → Prop) : Prop := ∀ (M : zM), Inv M → ∀ (a : Int32), ∃ (v : Int32) (M1 M2 : zM), f_X11_seed 0 a M = some (v, M1) ∧ f_X12_seed 54 a M1 = some (v, M2) ∧ Inv M2
def ok_keep (Inv : zM → Prop) : Prop := ∀ (M : zM), Inv M → ∀ (_ : Unit), ∃ (v : Int32) (M1 M2 : zM), f_X11_keep 0  M = some (v, M1) ∧ f_X12_keep 54  M1 = some (v, M2) ∧ Inv M2
def ok_undo (Inv : zM → Prop) : Prop := ∀ (M : zM), Inv M → ∀ (_ : Unit), ∃ (v : Int32) (M1 M2 : zM), f_X11_undo 0  M = some (v, M1) ∧ f_X12_undo 54  M1 = some (v, M2) ∧ Inv M2
def ok_check (Inv : zM → Prop) : Prop := ∀ (M : zM), Inv M → ∀ (a : Int32), ∃ (v : Int32) (M1 M2 : zM), f_X11_check 0 a M = some (v, M1) ∧ f_X12_check 54 a M1 = some (v, M2) ∧ Inv M2
def ok_count (Inv : zM → Prop) : Prop := ∀ (M : zM), Inv M → ∀ (a : Int32), ∃ (v : Int32) (M1 M2 : zM), f_X11_count 0 a M = some (v, M1) ∧ f_X12_count 54 a M1 = some (v, M2) ∧ Inv M2
def LawOK (Inv : zM → Prop) : Prop := ok_guest Inv ∧ ok_grille Inv ∧ ok_louvre Inv ∧ ok_feed Inv ∧ ok_law Inv ∧ ok_register Inv ∧ ok_hours Inv ∧ ok_tried Inv ∧ ok_roomIs Inv ∧ ok_feels Inv ∧ ok_way Inv ∧ ok_odds Inv ∧ ok_fromWhere Inv ∧ ok_meet Inv ∧ ok_cowls Inv ∧ ok_turn Inv ∧ ok_ways Inv ∧ ok_stockings Inv ∧ ok_sleep Inv ∧ ok_breakfast Inv ∧ ok_ropes Inv ∧ ok_taps Inv ∧ ok_tapped Inv ∧ ok_linen Inv ∧ ok_dust Inv ∧ ok_seed Inv ∧ ok_keep Inv ∧ ok_undo Inv ∧ ok_check Inv ∧ ok_count Inv
theorem tm0 : z_tm SH 10 0 := Or.inl ⟨by decide, rfl⟩
theorem tm54 : z_tm SH 11 54 := Or.inl ⟨by decide, rfl⟩
theorem w_lt {i L : Nat} (hi : i ≤ 4000) (hL : L ≤ 4000) : (Int32.ofNat L - 6 < nI i) ↔ L < i + 6 := by
  have h1 : (nI L - nI 6).toInt = (L : Int) - 6 := pk_sub_toInt (by omega) (by omega)
  have h2 : (nI i).toInt = (i : Int) := nI_toInt (by omega)
  rw [show (Int32.ofNat L - 6 : Int32) = nI L - nI 6 from rfl, Int32.lt_iff_toInt_lt, h1, h2]
  omega
theorem w_in {i k L : Nat} (h : i + k < L) (hL : L ≤ 4000) : vp_in (nI i + nI k) L := by rw [nI_add]; exact vp_in_nI h (by omega)

set_option maxHeartbeats 8000000 in
set_option maxRecDepth 100000 in
/-- THE LAW'S LOOP, over any invariant that the thirty methods keep -/
theorem law_loop {p : Program} {l : Launch} {e : Env} {s : State} {m : MethodId} {below : List Frame} {meth : Method} {c : Code} {dC : Nat → ClassId} {dI : Nat → Nat → Nat} {cA : Nat → ClassId} {b L : Nat} {xs : Nat → Int32} {ρ : Nat → Nat} {Inv : zM → Prop} (hL : L ≤ 3072) (C0 : lw_At p s m meth c b L xs) (C : wC p room_1 s m #[Value.ref b] c code 4 RL dC dI cA (fun q : Nat => s.heap.size ≤ q)) (hok : LawOK Inv) :
    ∀ (n i : Nat) (M : zM) (H : Heap) (locs : List Loc) (ls : Array Slot), i ≤ L + 6 → L + 7 ≤ i + n → Inv M → z_wf SH M → va_P (dC, dI) vwCl (z_W ρ cA SH M) H → va_D (fun q : Nat => s.heap.size ≤ q) (z_W ρ cA SH M) → va_S (fun q : Nat => s.heap.size ≤ q) s.heap H locs → lv_has ls 4 [(0, .ref b), (1, .ref (ρ 0)), (2, .ref (ρ 54)), (3, .int (nI i))] → W p l e room_1 s m #[Value.ref b] below meth c H locs 600000 7302250 (lw_Z below #[Value.ref b] s) (F0 m 18 ls []) := by
  obtain ⟨hx, hb, hr, hml, hown, hts, hX, hbl, hlocks, hgv⟩ := C0
  have hbA : ¬ (fun q : Nat => s.heap.size ≤ q) b := Nat.not_le.mpr hbl
  intro n
  induction n with
  | zero =>
    intro i M H locs ls h1 h2
    exact absurd h2 (by omega)
  | succ n ih =>
    intro i M H locs ls hi hin0 hI hwf hP hD hS hl
    refine lv_iload_n hx hb dL_law_18 rfl (lv_at hl 3 rfl) ?_
    refine lv_aload_n hx hb dL_law_19 rfl (lv_at hl 0 rfl) ?_
    refine va_slen hx hb hX hbl hbA hS dL_law_20 ?_
    refine lv_bipush (v := 6) hx hb dL_law_21 (by decide) ?_
    refine lv_isub hx hb dL_law_23 ?_
    refine lv_icmp_gt (tgt := 1111) hx hb dL_law_24 (by decide) (fun q => ?_) (fun q => ?_)
    · refine lv_iconst (v := 1) hx hb dL_law_1111 (by decide) ?_
      refine va_forget (fun q hq => hS.2.2 q hq) ?_
      exact lw_ret hx hb hr hlocks dL_law_1112
    have hlt : i + 6 ≤ L := Nat.not_lt.mp (fun h => q ((w_lt (by omega) (by omega)).mpr h))
    have hin : ∀ k : Nat, k < 6 → vp_in (nI i + nI k) L := fun k hk => w_in (by omega) (by omega)
    have hend : ∀ (M2 : zM) (H2 : Heap) (locs2 : List Loc), Inv M2 → z_wf SH M2 → va_P (dC, dI) vwCl (z_W ρ cA SH M2) H2 → va_D (fun q : Nat => s.heap.size ≤ q) (z_W ρ cA SH M2) → va_S (fun q : Nat => s.heap.size ≤ q) s.heap H2 locs2 → W p l e room_1 s m #[Value.ref b] below meth c H2 locs2 600000 7302250 (lw_Z below #[Value.ref b] s) (F0 m 1105 ls []) := by
      intro M2 H2 locs2 hI2 hwf2 hP2 hD2 hS2
      refine lv_iinc (v := nI (i + 6)) (lv' := [(3, .int (nI (i + 6))), (0, .ref b), (1, .ref (ρ 0)), (2, .ref (ρ 54))]) hx hb dL_law_1105 hl (k := 3) rfl (nI_add i 6) (by decide) rfl (fun ls hl => ?_)
      refine lv_goto (tgt := 18) hx hb dL_law_1108 (by decide) ?_
      exact ih (i + 6) M2 H2 locs2 ls (by omega) (by omega) hI2 hwf2 hP2 hD2 hS2 (lv_sub hl [1, 2, 3, 0] rfl)
    have hin0' : vp_in (nI i) L := vp_in_nI (by omega) (by omega)
    refine lv_aload_n hx hb dL_law_27 rfl (lv_at hl 0 rfl) ?_
    refine lv_iload_n hx hb dL_law_28 rfl (lv_at hl 3 rfl) ?_
    refine va_sld hx hb hX hbl hbA hS hin0' dL_law_29 ?_
    refine lv_bipush (v := 31) hx hb dL_law_30 (by decide) ?_
    refine lv_iand hx hb dL_law_32 ?_
    obtain ⟨j, hj, ej⟩ := pk_andE (xs (nI i).toNatClampNeg) (m := 31) 5 (by decide)
    rw [ej]
    clear ej ih hin0
    match j, hj with
    | 0, _ =>
      refine lv_tableIn (tgt := 168) (off := 135) hx hb dL_law_33 (by decide) (by decide) (by decide) (by decide) ?_
      refine lv_aload_n hx hb dL_law_168 rfl (lv_at hl 1 rfl) ?_
      refine lv_aload_n hx hb dL_law_169 rfl (lv_at hl 0 rfl) ?_
      refine lv_iload_n hx hb dL_law_170 rfl (lv_at hl 3 rfl) ?_
      refine lv_iconst (v := 1) hx hb dL_law_171 (by decide) ?_
      refine lv_iadd hx hb dL_law_172 ?_
      refine va_sld hx hb hX hbl hbA hS (hin 1 (by decide)) dL_law_173 ?_
      refine lv_aload_n hx hb dL_law_174 rfl (lv_at hl 0 rfl) ?_
      refine lv_iload_n hx hb dL_law_175 rfl (lv_at hl 3 rfl) ?_
      refine lv_iconst (v := 2) hx hb dL_law_176 (by decide) ?_
      refine lv_iadd hx hb dL_law_177 ?_
      refine va_sld hx hb hX hbl hbA hS (hin 2 (by decide)) dL_law_178 ?_
      obtain ⟨v, M1, M2, c1, c2, hI2⟩ := hok.1 M hI ((xs (nI i + 1).toNatClampNeg)) ((xs (nI i + 2).toNatClampNeg))
      refine w_cVi (av := [.int (xs (nI i + 1).toNatClampNeg), .int (xs (nI i + 2).toNatClampNeg)]) (rest := []) C (t_X11_guest tm0 c1) kw_X11_guest tm0 lk_L_13 (z_cn (fun a ha => by cases ha; exact Nat.le_of_ble_eq_true rfl) (z_cn z_rki (z_cn z_rki (fun _ h => absurd h List.not_mem_nil)))) rfl (by decide) hwf hP hD hS hl.1 rfl (Nat.le_of_ble_eq_true rfl) ⟨Nat.le_refl _, Nat.le_refl _⟩ dL_law_179 (fun ρ1 H1 locs1 hwf1 hρ1 hP1 hD1 hS1 => ?_)
      rw [z_W_cg hwf1 hρ1] at hP1 hD1
      clear hP hD hS hwf
      have hP := hP1
      have hD := hD1
      have hS := hS1
      have hwf := hwf1
      clear hP1 hD1 hS1 hwf1 hρ1
      refine lv_aload_n hx hb dL_law_182 rfl (lv_at hl 2 rfl) ?_
      refine lv_aload_n hx hb dL_law_183 rfl (lv_at hl 0 rfl) ?_
      refine lv_iload_n hx hb dL_law_184 rfl (lv_at hl 3 rfl) ?_
      refine lv_iconst (v := 1) hx hb dL_law_185 (by decide) ?_
      refine lv_iadd hx hb dL_law_186 ?_
      refine va_sld hx hb hX hbl hbA hS (hin 1 (by decide)) dL_law_187 ?_
      refine lv_aload_n hx hb dL_law_188 rfl (lv_at hl 0 rfl) ?_
      refine lv_iload_n hx hb dL_law_189 rfl (lv_at hl 3 rfl) ?_
      refine lv_iconst (v := 2) hx hb dL_law_190 (by decide) ?_
      refine lv_iadd hx hb dL_law_191 ?_
      refine va_sld hx hb hX hbl hbA hS (hin 2 (by decide)) dL_law_192 ?_
      refine w_cVi (av := [.int (xs (nI i + 1).toNatClampNeg), .int (xs (nI i + 2).toNatClampNeg)]) (rest := [.int v]) C (t_X12_guest tm54 c2) kw_X12_guest tm54 lk_L_17 (z_cn (fun a ha => by cases ha; exact Nat.le_of_ble_eq_true rfl) (z_cn z_rki (z_cn z_rki (fun _ h => absurd h List.not_mem_nil)))) rfl (by decide) hwf hP hD hS hl.1 rfl (Nat.le_of_ble_eq_true rfl) ⟨Nat.le_refl _, Nat.le_refl _⟩ dL_law_193 (fun ρ1 H1 locs1 hwf1 hρ1 hP1 hD1 hS1 => ?_)
      rw [z_W_cg hwf1 hρ1] at hP1 hD1
      clear hP hD hS hwf
      have hP := hP1
      have hD := hD1
      have hS := hS1
      have hwf := hwf1
      clear hP1 hD1 hS1 hwf1 hρ1
      refine lv_icmp_eq (tgt := 1105) hx hb dL_law_196 (by decide) (fun _ => ?_) (fun q => absurd rfl q)
      exact hend M2 _ _ hI2 hwf hP hD hS
    | 1, _ =>
      refine lv_tableIn (tgt := 201) (off := 168) hx hb dL_law_33 (by decide) (by decide) (by decide) (by decide) ?_
      refine lv_aload_n hx hb dL_law_201 rfl (lv_at hl 1 rfl) ?_
      refine lv_aload_n hx hb dL_law_202 rfl (lv_at hl 0 rfl) ?_
      refine lv_iload_n hx hb dL_law_203 rfl (lv_at hl 3 rfl) ?_
      refine lv_iconst (v := 1) hx hb dL_law_204 (by decide) ?_
      refine lv_iadd hx hb dL_law_205 ?_
      refine va_sld hx hb hX hbl hbA hS (hin 1 (by decide)) dL_law_206 ?_
      refine lv_aload_n hx hb dL_law_207 rfl (lv_at hl 0 rfl) ?_
      refine lv_iload_n hx hb dL_law_208 rfl (lv_at hl 3 rfl) ?_
      refine lv_iconst (v := 2) hx hb dL_law_209 (by decide) ?_
      refine lv_iadd hx hb dL_law_210 ?_
      refine va_sld hx hb hX hbl hbA hS (hin 2 (by decide)) dL_law_211 ?_
      refine lv_if_eq (tgt := 219) hx hb dL_law_212 (by decide) (fun qb => ?_) (fun qb => ?_)
      · skip
        refine lv_iconst (v := 0) hx hb dL_law_219 (by decide) ?_
        obtain ⟨v, M1, M2, c1, c2, hI2⟩ := hok.2.1 M hI ((xs (nI i + 1).toNatClampNeg)) (0) (Or.inl rfl)
        refine w_cVi (av := [.int (xs (nI i + 1).toNatClampNeg), .int 0]) (rest := []) C (t_X11_grille tm0 c1) kw_X11_grille tm0 lk_L_18 (z_cn (fun a ha => by cases ha; exact Nat.le_of_ble_eq_true rfl) (z_cn z_rki (z_cn z_rki (fun _ h => absurd h List.not_mem_nil)))) rfl (by decide) hwf hP hD hS hl.1 rfl (Nat.le_of_ble_eq_true rfl) ⟨Nat.le_refl _, Nat.le_refl _⟩ dL_law_220 (fun ρ1 H1 locs1 hwf1 hρ1 hP1 hD1 hS1 => ?_)
        rw [z_W_cg hwf1 hρ1] at hP1 hD1
        clear hP hD hS hwf
        have hP := hP1
        have hD := hD1
        have hS := hS1
        have hwf := hwf1
        clear hP1 hD1 hS1 hwf1 hρ1
        refine lv_aload_n hx hb dL_law_223 rfl (lv_at hl 2 rfl) ?_
        refine lv_aload_n hx hb dL_law_224 rfl (lv_at hl 0 rfl) ?_
        refine lv_iload_n hx hb dL_law_225 rfl (lv_at hl 3 rfl) ?_
        refine lv_iconst (v := 1) hx hb dL_law_226 (by decide) ?_
        refine lv_iadd hx hb dL_law_227 ?_
        refine va_sld hx hb hX hbl hbA hS (hin 1 (by decide)) dL_law_228 ?_
        refine lv_aload_n hx hb dL_law_229 rfl (lv_at hl 0 rfl) ?_
        refine lv_iload_n hx hb dL_law_230 rfl (lv_at hl 3 rfl) ?_
        refine lv_iconst (v := 2) hx hb dL_law_231 (by decide) ?_
        refine lv_iadd hx hb dL_law_232 ?_
        refine va_sld hx hb hX hbl hbA hS (hin 2 (by decide)) dL_law_233 ?_
        refine lv_if_eq (tgt := 241) hx hb dL_law_234 (by decide) (fun _ => ?_) (fun q => absurd qb q)
        refine lv_iconst (v := 0) hx hb dL_law_241 (by decide) ?_
        refine w_cVi (av := [.int (xs (nI i + 1).toNatClampNeg), .int 0]) (rest := [.int v]) C (t_X12_grille tm54 c2) kw_X12_grille tm54 lk_L_22 (z_cn (fun a ha => by cases ha; exact Nat.le_of_ble_eq_true rfl) (z_cn z_rki (z_cn z_rki (fun _ h => absurd h List.not_mem_nil)))) rfl (by decide) hwf hP hD hS hl.1 rfl (Nat.le_of_ble_eq_true rfl) ⟨Nat.le_refl _, Nat.le_refl _⟩ dL_law_242 (fun ρ1 H1 locs1 hwf1 hρ1 hP1 hD1 hS1 => ?_)
        rw [z_W_cg hwf1 hρ1] at hP1 hD1
        clear hP hD hS hwf
        have hP := hP1
        have hD := hD1
        have hS := hS1
        have hwf := hwf1
        clear hP1 hD1 hS1 hwf1 hρ1
        refine lv_icmp_eq (tgt := 1105) hx hb dL_law_245 (by decide) (fun _ => ?_) (fun q => absurd rfl q)
        exact hend M2 _ _ hI2 hwf hP hD hS
      · skip
        refine lv_iconst (v := 1) hx hb dL_law_215 (by decide) ?_
        refine lv_goto (tgt := 220) hx hb dL_law_216 (by decide) ?_
        obtain ⟨v, M1, M2, c1, c2, hI2⟩ := hok.2.1 M hI ((xs (nI i + 1).toNatClampNeg)) (1) (Or.inr rfl)
        refine w_cVi (av := [.int (xs (nI i + 1).toNatClampNeg), .int 1]) (rest := []) C (t_X11_grille tm0 c1) kw_X11_grille tm0 lk_L_18 (z_cn (fun a ha => by cases ha; exact Nat.le_of_ble_eq_true rfl) (z_cn z_rki (z_cn z_rki (fun _ h => absurd h List.not_mem_nil)))) rfl (by decide) hwf hP hD hS hl.1 rfl (Nat.le_of_ble_eq_true rfl) ⟨Nat.le_refl _, Nat.le_refl _⟩ dL_law_220 (fun ρ1 H1 locs1 hwf1 hρ1 hP1 hD1 hS1 => ?_)
        rw [z_W_cg hwf1 hρ1] at hP1 hD1
        clear hP hD hS hwf
        have hP := hP1
        have hD := hD1
        have hS := hS1
        have hwf := hwf1
        clear hP1 hD1 hS1 hwf1 hρ1
        refine lv_aload_n hx hb dL_law_223 rfl (lv_at hl 2 rfl) ?_
        refine lv_aload_n hx hb dL_law_224 rfl (lv_at hl 0 rfl) ?_
        refine lv_iload_n hx hb dL_law_225 rfl (lv_at hl 3 rfl) ?_
        refine lv_iconst (v := 1) hx hb dL_law_226 (by decide) ?_
        refine lv_iadd hx hb dL_law_227 ?_
        refine va_sld hx hb hX hbl hbA hS (hin 1 (by decide)) dL_law_228 ?_
        refine lv_aload_n hx hb dL_law_229 rfl (lv_at hl 0 rfl) ?_
        refine lv_iload_n hx hb dL_law_230 rfl (lv_at hl 3 rfl) ?_
        refine lv_iconst (v := 2) hx hb dL_law_231 (by decide) ?_
        refine lv_iadd hx hb dL_law_232 ?_
        refine va_sld hx hb hX hbl hbA hS (hin 2 (by decide)) dL_law_233 ?_
        refine lv_if_eq (tgt := 241) hx hb dL_law_234 (by decide) (fun q => absurd q qb) (fun _ => ?_)
        refine lv_iconst (v := 1) hx hb dL_law_237 (by decide) ?_
        refine lv_goto (tgt := 242) hx hb dL_law_238 (by decide) ?_
        refine w_cVi (av := [.int (xs (nI i + 1).toNatClampNeg), .int 1]) (rest := [.int v]) C (t_X12_grille tm54 c2) kw_X12_grille tm54 lk_L_22 (z_cn (fun a ha => by cases ha; exact Nat.le_of_ble_eq_true rfl) (z_cn z_rki (z_cn z_rki (fun _ h => absurd h List.not_mem_nil)))) rfl (by decide) hwf hP hD hS hl.1 rfl (Nat.le_of_ble_eq_true rfl) ⟨Nat.le_refl _, Nat.le_refl _⟩ dL_law_242 (fun ρ1 H1 locs1 hwf1 hρ1 hP1 hD1 hS1 => ?_)
        rw [z_W_cg hwf1 hρ1] at hP1 hD1
        clear hP hD hS hwf
        have hP := hP1
        have hD := hD1
        have hS := hS1
        have hwf := hwf1
        clear hP1 hD1 hS1 hwf1 hρ1
        refine lv_icmp_eq (tgt := 1105) hx hb dL_law_245 (by decide) (fun _ => ?_) (fun q => absurd rfl q)
        exact hend M2 _ _ hI2 hwf hP hD hS
    | 2, _ =>
      refine lv_tableIn (tgt := 250) (off := 217) hx hb dL_law_33 (by decide) (by decide) (by decide) (by decide) ?_
      refine lv_aload_n hx hb dL_law_250 rfl (lv_at hl 1 rfl) ?_
      refine lv_aload_n hx hb dL_law_251 rfl (lv_at hl 0 rfl) ?_
      refine lv_iload_n hx hb dL_law_252 rfl (lv_at hl 3 rfl) ?_
      refine lv_iconst (v := 1) hx hb dL_law_253 (by decide) ?_
      refine lv_iadd hx hb dL_law_254 ?_
      refine va_sld hx hb hX hbl hbA hS (hin 1 (by decide)) dL_law_255 ?_
      refine lv_aload_n hx hb dL_law_256 rfl (lv_at hl 0 rfl) ?_
      refine lv_iload_n hx hb dL_law_257 rfl (lv_at hl 3 rfl) ?_
      refine lv_iconst (v := 2) hx hb dL_law_258 (by decide) ?_
      refine lv_iadd hx hb dL_law_259 ?_
      refine va_sld hx hb hX hbl hbA hS (hin 2 (by decide)) dL_law_260 ?_
      obtain ⟨v, M1, M2, c1, c2, hI2⟩ := hok.2.2.1 M hI ((xs (nI i + 1).toNatClampNeg)) ((xs (nI i + 2).toNatClampNeg))
      refine w_cVi (av := [.int (xs (nI i + 1).toNatClampNeg), .int (xs (nI i + 2).toNatClampNeg)]) (rest := []) C (t_X11_louvre tm0 c1) kw_X11_louvre tm0 lk_L_23 (z_cn (fun a ha => by cases ha; exact Nat.le_of_ble_eq_true rfl) (z_cn z_rki (z_cn z_rki (fun _ h => absurd h List.not_mem_nil)))) rfl (by decide) hwf hP hD hS hl.1 rfl (Nat.le_of_ble_eq_true rfl) ⟨Nat.le_refl _, Nat.le_refl _⟩ dL_law_261 (fun ρ1 H1 locs1 hwf1 hρ1 hP1 hD1 hS1 => ?_)
      rw [z_W_cg hwf1 hρ1] at hP1 hD1
      clear hP hD hS hwf
      have hP := hP1
      have hD := hD1
      have hS := hS1
      have hwf := hwf1
      clear hP1 hD1 hS1 hwf1 hρ1
      refine lv_aload_n hx hb dL_law_264 rfl (lv_at hl 2 rfl) ?_
      refine lv_aload_n hx hb dL_law_265 rfl (lv_at hl 0 rfl) ?_
      refine lv_iload_n hx hb dL_law_266 rfl (lv_at hl 3 rfl) ?_
      refine lv_iconst (v := 1) hx hb dL_law_267 (by decide) ?_
      refine lv_iadd hx hb dL_law_268 ?_
      refine va_sld hx hb hX hbl hbA hS (hin 1 (by decide)) dL_law_269 ?_
      refine lv_aload_n hx hb dL_law_270 rfl (lv_at hl 0 rfl) ?_
      refine lv_iload_n hx hb dL_law_271 rfl (lv_at hl 3 rfl) ?_
      refine lv_iconst (v := 2) hx hb dL_law_272 (by decide) ?_
      refine lv_iadd hx hb dL_law_273 ?_
      refine va_sld hx hb hX hbl hbA hS (hin 2 (by decide)) dL_law_274 ?_
      refine w_cVi (av := [.int (xs (nI i + 1).toNatClampNeg), .int (xs (nI i + 2).toNatClampNeg)]) (rest := [.int v]) C (t_X12_louvre tm54 c2) kw_X12_louvre tm54 lk_L_26 (z_cn (fun a ha => by cases ha; exact Nat.le_of_ble_eq_true rfl) (z_cn z_rki (z_cn z_rki (fun _ h => absurd h List.not_mem_nil)))) rfl (by decide) hwf hP hD hS hl.1 rfl (Nat.le_of_ble_eq_true rfl) ⟨Nat.le_refl _, Nat.le_refl _⟩ dL_law_275 (fun ρ1 H1 locs1 hwf1 hρ1 hP1 hD1 hS1 => ?_)
      rw [z_W_cg hwf1 hρ1] at hP1 hD1
      clear hP hD hS hwf
      have hP := hP1
      have hD := hD1
      have hS := hS1
      have hwf := hwf1
      clear hP1 hD1 hS1 hwf1 hρ1
      refine lv_icmp_eq (tgt := 1105) hx hb dL_law_278 (by decide) (fun _ => ?_) (fun q => absurd rfl q)
      exact hend M2 _ _ hI2 hwf hP hD hS
    | 3, _ =>
      refine lv_tableIn (tgt := 283) (off := 250) hx hb dL_law_33 (by decide) (by decide) (by decide) (by decide) ?_
      refine lv_aload_n hx hb dL_law_283 rfl (lv_at hl 1 rfl) ?_
      refine lv_aload_n hx hb dL_law_284 rfl (lv_at hl 0 rfl) ?_
      refine lv_iload_n hx hb dL_law_285 rfl (lv_at hl 3 rfl) ?_
      refine lv_iconst (v := 1) hx hb dL_law_286 (by decide) ?_
      refine lv_iadd hx hb dL_law_287 ?_
      refine va_sld hx hb hX hbl hbA hS (hin 1 (by decide)) dL_law_288 ?_
      refine lv_aload_n hx hb dL_law_289 rfl (lv_at hl 0 rfl) ?_
      refine lv_iload_n hx hb dL_law_290 rfl (lv_at hl 3 rfl) ?_
      refine lv_iconst (v := 2) hx hb dL_law_291 (by decide) ?_
      refine lv_iadd hx hb dL_law_292 ?_
      refine va_sld hx hb hX hbl hbA hS (hin 2 (by decide)) dL_law_293 ?_
      refine lv_aload_n hx hb dL_law_294 rfl (lv_at hl 0 rfl) ?_
      refine lv_iload_n hx hb dL_law_295 rfl (lv_at hl 3 rfl) ?_
      refine lv_iconst (v := 3) hx hb dL_law_296 (by decide) ?_
      refine lv_iadd hx hb dL_law_297 ?_
      refine va_sld hx hb hX hbl hbA hS (hin 3 (by decide)) dL_law_298 ?_
      refine lv_aload_n hx hb dL_law_299 rfl (lv_at hl 0 rfl) ?_
      refine lv_iload_n hx hb dL_law_300 rfl (lv_at hl 3 rfl) ?_
      refine lv_iconst (v := 4) hx hb dL_law_301 (by decide) ?_
      refine lv_iadd hx hb dL_law_302 ?_
      refine va_sld hx hb hX hbl hbA hS (hin 4 (by decide)) dL_law_303 ?_
      refine lv_aload_n hx hb dL_law_304 rfl (lv_at hl 0 rfl) ?_
      refine lv_iload_n hx hb dL_law_305 rfl (lv_at hl 3 rfl) ?_
      refine lv_iconst (v := 5) hx hb dL_law_306 (by decide) ?_
      refine lv_iadd hx hb dL_law_307 ?_
      refine va_sld hx hb hX hbl hbA hS (hin 5 (by decide)) dL_law_308 ?_
      obtain ⟨v, M1, M2, c1, c2, hI2⟩ := hok.2.2.2.1 M hI ((xs (nI i + 1).toNatClampNeg)) ((xs (nI i + 2).toNatClampNeg)) ((xs (nI i + 3).toNatClampNeg)) ((xs (nI i + 4).toNatClampNeg)) ((xs (nI i + 5).toNatClampNeg))
      refine w_cVi (av := [.int (xs (nI i + 1).toNatClampNeg), .int (xs (nI i + 2).toNatClampNeg), .int (xs (nI i + 3).toNatClampNeg), .int (xs (nI i + 4).toNatClampNeg), .int (xs (nI i + 5).toNatClampNeg)]) (rest := []) C (t_X11_feed tm0 c1) kw_X11_feed tm0 lk_L_27 (z_cn (fun a ha => by cases ha; exact Nat.le_of_ble_eq_true rfl) (z_cn z_rki (z_cn z_rki (z_cn z_rki (z_cn z_rki (z_cn z_rki (fun _ h => absurd h List.not_mem_nil))))))) rfl (by decide) hwf hP hD hS hl.1 rfl (Nat.le_of_ble_eq_true rfl) ⟨Nat.le_refl _, Nat.le_refl _⟩ dL_law_309 (fun ρ1 H1 locs1 hwf1 hρ1 hP1 hD1 hS1 => ?_)
      rw [z_W_cg hwf1 hρ1] at hP1 hD1
      clear hP hD hS hwf
      have hP := hP1
      have hD := hD1
      have hS := hS1
      have hwf := hwf1
      clear hP1 hD1 hS1 hwf1 hρ1
      refine lv_aload_n hx hb dL_law_312 rfl (lv_at hl 2 rfl) ?_
      refine lv_aload_n hx hb dL_law_313 rfl (lv_at hl 0 rfl) ?_
      refine lv_iload_n hx hb dL_law_314 rfl (lv_at hl 3 rfl) ?_
      refine lv_iconst (v := 1) hx hb dL_law_315 (by decide) ?_
      refine lv_iadd hx hb dL_law_316 ?_
      refine va_sld hx hb hX hbl hbA hS (hin 1 (by decide)) dL_law_317 ?_
      refine lv_aload_n hx hb dL_law_318 rfl (lv_at hl 0 rfl) ?_
      refine lv_iload_n hx hb dL_law_319 rfl (lv_at hl 3 rfl) ?_
      refine lv_iconst (v := 2) hx hb dL_law_320 (by decide) ?_
      refine lv_iadd hx hb dL_law_321 ?_
      refine va_sld hx hb hX hbl hbA hS (hin 2 (by decide)) dL_law_322 ?_
      refine lv_aload_n hx hb dL_law_323 rfl (lv_at hl 0 rfl) ?_
      refine lv_iload_n hx hb dL_law_324 rfl (lv_at hl 3 rfl) ?_
      refine lv_iconst (v := 3) hx hb dL_law_325 (by decide) ?_
      refine lv_iadd hx hb dL_law_326 ?_
      refine va_sld hx hb hX hbl hbA hS (hin 3 (by decide)) dL_law_327 ?_
      refine lv_aload_n hx hb dL_law_328 rfl (lv_at hl 0 rfl) ?_
      refine lv_iload_n hx hb dL_law_329 rfl (lv_at hl 3 rfl) ?_
      refine lv_iconst (v := 4) hx hb dL_law_330 (by decide) ?_
      refine lv_iadd hx hb dL_law_331 ?_
      refine va_sld hx hb hX hbl hbA hS (hin 4 (by decide)) dL_law_332 ?_
      refine lv_aload_n hx hb dL_law_333 rfl (lv_at hl 0 rfl) ?_
      refine lv_iload_n hx hb dL_law_334 rfl (lv_at hl 3 rfl) ?_
      refine lv_iconst (v := 5) hx hb dL_law_335 (by decide) ?_
      refine lv_iadd hx hb dL_law_336 ?_
      refine va_sld hx hb hX hbl hbA hS (hin 5 (by decide)) dL_law_337 ?_
      refine w_cVi (av := [.int (xs (nI i + 1).toNatClampNeg), .int (xs (nI i + 2).toNatClampNeg), .int (xs (nI i + 3).toNatClampNeg), .int (xs (nI i + 4).toNatClampNeg), .int (xs (nI i + 5).toNatClampNeg)]) (rest := [.int v]) C (t_X12_feed tm54 c2) kw_X12_feed tm54 lk_L_31 (z_cn (fun a ha => by cases ha; exact Nat.le_of_ble_eq_true rfl) (z_cn z_rki (z_cn z_rki (z_cn z_rki (z_cn z_rki (z_cn z_rki (fun _ h => absurd h List.not_mem_nil))))))) rfl (by decide) hwf hP hD hS hl.1 rfl (Nat.le_of_ble_eq_true rfl) ⟨Nat.le_refl _, Nat.le_refl _⟩ dL_law_338 (fun ρ1 H1 locs1 hwf1 hρ1 hP1 hD1 hS1 => ?_)
      rw [z_W_cg hwf1 hρ1] at hP1 hD1
      clear hP hD hS hwf
      have hP := hP1
      have hD := hD1
      have hS := hS1
      have hwf := hwf1
      clear hP1 hD1 hS1 hwf1 hρ1
      refine lv_icmp_eq (tgt := 1105) hx hb dL_law_341 (by decide) (fun _ => ?_) (fun q => absurd rfl q)
      exact hend M2 _ _ hI2 hwf hP hD hS
    | 4, _ =>
      refine lv_tableIn (tgt := 346) (off := 313) hx hb dL_law_33 (by decide) (by decide) (by decide) (by decide) ?_
      refine lv_aload_n hx hb dL_law_346 rfl (lv_at hl 1 rfl) ?_
      refine lv_aload_n hx hb dL_law_347 rfl (lv_at hl 0 rfl) ?_
      refine lv_iload_n hx hb dL_law_348 rfl (lv_at hl 3 rfl) ?_
      refine lv_iconst (v := 1) hx hb dL_law_349 (by decide) ?_
      refine lv_iadd hx hb dL_law_350 ?_
      refine va_sld hx hb hX hbl hbA hS (hin 1 (by decide)) dL_law_351 ?_
      obtain ⟨v, M1, M2, c1, c2, hI2⟩ := hok.2.2.2.2.1 M hI ((xs (nI i + 1).toNatClampNeg))
      refine w_cVi (av := [.int (xs (nI i + 1).toNatClampNeg)]) (rest := []) C (t_X11_law tm0 c1) kw_X11_law tm0 lk_L_32 (z_cn (fun a ha => by cases ha; exact Nat.le_of_ble_eq_true rfl) (z_cn z_rki (fun _ h => absurd h List.not_mem_nil))) rfl (by decide) hwf hP hD hS hl.1 rfl (Nat.le_of_ble_eq_true rfl) ⟨Nat.le_refl _, Nat.le_refl _⟩ dL_law_352 (fun ρ1 H1 locs1 hwf1 hρ1 hP1 hD1 hS1 => ?_)
      rw [z_W_cg hwf1 hρ1] at hP1 hD1
      clear hP hD hS hwf
      have hP := hP1
      have hD := hD1
      have hS := hS1
      have hwf := hwf1
      clear hP1 hD1 hS1 hwf1 hρ1
      refine lv_aload_n hx hb dL_law_355 rfl (lv_at hl 2 rfl) ?_
      refine lv_aload_n hx hb dL_law_356 rfl (lv_at hl 0 rfl) ?_
      refine lv_iload_n hx hb dL_law_357 rfl (lv_at hl 3 rfl) ?_
      refine lv_iconst (v := 1) hx hb dL_law_358 (by decide) ?_
      refine lv_iadd hx hb dL_law_359 ?_
      refine va_sld hx hb hX hbl hbA hS (hin 1 (by decide)) dL_law_360 ?_
      refine w_cVi (av := [.int (xs (nI i + 1).toNatClampNeg)]) (rest := [.int v]) C (t_X12_law tm54 c2) kw_X12_law tm54 lk_L_36 (z_cn (fun a ha => by cases ha; exact Nat.le_of_ble_eq_true rfl) (z_cn z_rki (fun _ h => absurd h List.not_mem_nil))) rfl (by decide) hwf hP hD hS hl.1 rfl (Nat.le_of_ble_eq_true rfl) ⟨Nat.le_refl _, Nat.le_refl _⟩ dL_law_361 (fun ρ1 H1 locs1 hwf1 hρ1 hP1 hD1 hS1 => ?_)
      rw [z_W_cg hwf1 hρ1] at hP1 hD1
      clear hP hD hS hwf
      have hP := hP1
      have hD := hD1
      have hS := hS1
      have hwf := hwf1
      clear hP1 hD1 hS1 hwf1 hρ1
      refine lv_icmp_eq (tgt := 1105) hx hb dL_law_364 (by decide) (fun _ => ?_) (fun q => absurd rfl q)
      exact hend M2 _ _ hI2 hwf hP hD hS
    | 5, _ =>
      refine lv_tableIn (tgt := 369) (off := 336) hx hb dL_law_33 (by decide) (by decide) (by decide) (by decide) ?_
      refine lv_aload_n hx hb dL_law_369 rfl (lv_at hl 1 rfl) ?_
      refine lv_aload_n hx hb dL_law_370 rfl (lv_at hl 0 rfl) ?_
      refine lv_iload_n hx hb dL_law_371 rfl (lv_at hl 3 rfl) ?_
      refine lv_iconst (v := 1) hx hb dL_law_372 (by decide) ?_
      refine lv_iadd hx hb dL_law_373 ?_
      refine va_sld hx hb hX hbl hbA hS (hin 1 (by decide)) dL_law_374 ?_
      obtain ⟨v, M1, M2, c1, c2, hI2⟩ := hok.2.2.2.2.2.1 M hI ((xs (nI i + 1).toNatClampNeg))
      refine w_cVi (av := [.int (xs (nI i + 1).toNatClampNeg)]) (rest := []) C (t_X11_register tm0 c1) kw_X11_register tm0 lk_L_37 (z_cn (fun a ha => by cases ha; exact Nat.le_of_ble_eq_true rfl) (z_cn z_rki (fun _ h => absurd h List.not_mem_nil))) rfl (by decide) hwf hP hD hS hl.1 rfl (Nat.le_of_ble_eq_true rfl) ⟨Nat.le_refl _, Nat.le_refl _⟩ dL_law_375 (fun ρ1 H1 locs1 hwf1 hρ1 hP1 hD1 hS1 => ?_)
      rw [z_W_cg hwf1 hρ1] at hP1 hD1
      clear hP hD hS hwf
      have hP := hP1
      have hD := hD1
      have hS := hS1
      have hwf := hwf1
      clear hP1 hD1 hS1 hwf1 hρ1
      refine lv_aload_n hx hb dL_law_378 rfl (lv_at hl 2 rfl) ?_
      refine lv_aload_n hx hb dL_law_379 rfl (lv_at hl 0 rfl) ?_
      refine lv_iload_n hx hb dL_law_380 rfl (lv_at hl 3 rfl) ?_
      refine lv_iconst (v := 1) hx hb dL_law_381 (by decide) ?_
      refine lv_iadd hx hb dL_law_382 ?_
      refine va_sld hx hb hX hbl hbA hS (hin 1 (by decide)) dL_law_383 ?_
      refine w_cVi (av := [.int (xs (nI i + 1).toNatClampNeg)]) (rest := [.int v]) C (t_X12_register tm54 c2) kw_X12_register tm54 lk_L_40 (z_cn (fun a ha => by cases ha; exact Nat.le_of_ble_eq_true rfl) (z_cn z_rki (fun _ h => absurd h List.not_mem_nil))) rfl (by decide) hwf hP hD hS hl.1 rfl (Nat.le_of_ble_eq_true rfl) ⟨Nat.le_refl _, Nat.le_refl _⟩ dL_law_384 (fun ρ1 H1 locs1 hwf1 hρ1 hP1 hD1 hS1 => ?_)
      rw [z_W_cg hwf1 hρ1] at hP1 hD1
      clear hP hD hS hwf
      have hP := hP1
      have hD := hD1
      have hS := hS1
      have hwf := hwf1
      clear hP1 hD1 hS1 hwf1 hρ1
      refine lv_icmp_eq (tgt := 1105) hx hb dL_law_387 (by decide) (fun _ => ?_) (fun q => absurd rfl q)
      exact hend M2 _ _ hI2 hwf hP hD hS
    | 6, _ =>
      refine lv_tableIn (tgt := 392) (off := 359) hx hb dL_law_33 (by decide) (by decide) (by decide) (by decide) ?_
      refine lv_aload_n hx hb dL_law_392 rfl (lv_at hl 1 rfl) ?_
      refine lv_aload_n hx hb dL_law_393 rfl (lv_at hl 0 rfl) ?_
      refine lv_iload_n hx hb dL_law_394 rfl (lv_at hl 3 rfl) ?_
      refine lv_iconst (v := 1) hx hb dL_law_395 (by decide) ?_
      refine lv_iadd hx hb dL_law_396 ?_
      refine va_sld hx hb hX hbl hbA hS (hin 1 (by decide)) dL_law_397 ?_
      obtain ⟨v, M1, M2, c1, c2, hI2⟩ := hok.2.2.2.2.2.2.1 M hI ((xs (nI i + 1).toNatClampNeg))
      refine w_cVi (av := [.int (xs (nI i + 1).toNatClampNeg)]) (rest := []) C (t_X11_hours tm0 c1) kw_X11_hours tm0 lk_L_41 (z_cn (fun a ha => by cases ha; exact Nat.le_of_ble_eq_true rfl) (z_cn z_rki (fun _ h => absurd h List.not_mem_nil))) rfl (by decide) hwf hP hD hS hl.1 rfl (Nat.le_of_ble_eq_true rfl) ⟨Nat.le_refl _, Nat.le_refl _⟩ dL_law_398 (fun ρ1 H1 locs1 hwf1 hρ1 hP1 hD1 hS1 => ?_)
      rw [z_W_cg hwf1 hρ1] at hP1 hD1
      clear hP hD hS hwf
      have hP := hP1
      have hD := hD1
      have hS := hS1
      have hwf := hwf1
      clear hP1 hD1 hS1 hwf1 hρ1
      refine lv_aload_n hx hb dL_law_401 rfl (lv_at hl 2 rfl) ?_
      refine lv_aload_n hx hb dL_law_402 rfl (lv_at hl 0 rfl) ?_
      refine lv_iload_n hx hb dL_law_403 rfl (lv_at hl 3 rfl) ?_
      refine lv_iconst (v := 1) hx hb dL_law_404 (by decide) ?_
      refine lv_iadd hx hb dL_law_405 ?_
      refine va_sld hx hb hX hbl hbA hS (hin 1 (by decide)) dL_law_406 ?_
      refine w_cVi (av := [.int (xs (nI i + 1).toNatClampNeg)]) (rest := [.int v]) C (t_X12_hours tm54 c2) kw_X12_hours tm54 lk_L_44 (z_cn (fun a ha => by cases ha; exact Nat.le_of_ble_eq_true rfl) (z_cn z_rki (fun _ h => absurd h List.not_mem_nil))) rfl (by decide) hwf hP hD hS hl.1 rfl (Nat.le_of_ble_eq_true rfl) ⟨Nat.le_refl _, Nat.le_refl _⟩ dL_law_407 (fun ρ1 H1 locs1 hwf1 hρ1 hP1 hD1 hS1 => ?_)
      rw [z_W_cg hwf1 hρ1] at hP1 hD1
      clear hP hD hS hwf
      have hP := hP1
      have hD := hD1
      have hS := hS1
      have hwf := hwf1
      clear hP1 hD1 hS1 hwf1 hρ1
      refine lv_icmp_eq (tgt := 1105) hx hb dL_law_410 (by decide) (fun _ => ?_) (fun q => absurd rfl q)
      exact hend M2 _ _ hI2 hwf hP hD hS
    | 7, _ =>
      refine lv_tableIn (tgt := 415) (off := 382) hx hb dL_law_33 (by decide) (by decide) (by decide) (by decide) ?_
      refine lv_aload_n hx hb dL_law_415 rfl (lv_at hl 1 rfl) ?_
      refine lv_aload_n hx hb dL_law_416 rfl (lv_at hl 0 rfl) ?_
      refine lv_iload_n hx hb dL_law_417 rfl (lv_at hl 3 rfl) ?_
      refine lv_iconst (v := 1) hx hb dL_law_418 (by decide) ?_
      refine lv_iadd hx hb dL_law_419 ?_
      refine va_sld hx hb hX hbl hbA hS (hin 1 (by decide)) dL_law_420 ?_
      refine lv_aload_n hx hb dL_law_421 rfl (lv_at hl 0 rfl) ?_
      refine lv_iload_n hx hb dL_law_422 rfl (lv_at hl 3 rfl) ?_
      refine lv_iconst (v := 2) hx hb dL_law_423 (by decide) ?_
      refine lv_iadd hx hb dL_law_424 ?_
      refine va_sld hx hb hX hbl hbA hS (hin 2 (by decide)) dL_law_425 ?_
      obtain ⟨v, M1, M2, c1, c2, hI2⟩ := hok.2.2.2.2.2.2.2.1 M hI ((xs (nI i + 1).toNatClampNeg)) ((xs (nI i + 2).toNatClampNeg))
      refine w_cVi (av := [.int (xs (nI i + 1).toNatClampNeg), .int (xs (nI i + 2).toNatClampNeg)]) (rest := []) C (t_X11_tried tm0 c1) kw_X11_tried tm0 lk_L_45 (z_cn (fun a ha => by cases ha; exact Nat.le_of_ble_eq_true rfl) (z_cn z_rki (z_cn z_rki (fun _ h => absurd h List.not_mem_nil)))) rfl (by decide) hwf hP hD hS hl.1 rfl (Nat.le_of_ble_eq_true rfl) ⟨Nat.le_refl _, Nat.le_refl _⟩ dL_law_426 (fun ρ1 H1 locs1 hwf1 hρ1 hP1 hD1 hS1 => ?_)
      rw [z_W_cg hwf1 hρ1] at hP1 hD1
      clear hP hD hS hwf
      have hP := hP1
      have hD := hD1
      have hS := hS1
      have hwf := hwf1
      clear hP1 hD1 hS1 hwf1 hρ1
      refine lv_aload_n hx hb dL_law_429 rfl (lv_at hl 2 rfl) ?_
      refine lv_aload_n hx hb dL_law_430 rfl (lv_at hl 0 rfl) ?_
      refine lv_iload_n hx hb dL_law_431 rfl (lv_at hl 3 rfl) ?_
      refine lv_iconst (v := 1) hx hb dL_law_432 (by decide) ?_
      refine lv_iadd hx hb dL_law_433 ?_
      refine va_sld hx hb hX hbl hbA hS (hin 1 (by decide)) dL_law_434 ?_
      refine lv_aload_n hx hb dL_law_435 rfl (lv_at hl 0 rfl) ?_
      refine lv_iload_n hx hb dL_law_436 rfl (lv_at hl 3 rfl) ?_
      refine lv_iconst (v := 2) hx hb dL_law_437 (by decide) ?_
      refine lv_iadd hx hb dL_law_438 ?_
      refine va_sld hx hb hX hbl hbA hS (hin 2 (by decide)) dL_law_439 ?_
      refine w_cVi (av := [.int (xs (nI i + 1).toNatClampNeg), .int (xs (nI i + 2).toNatClampNeg)]) (rest := [.int v]) C (t_X12_tried tm54 c2) kw_X12_tried tm54 lk_L_49 (z_cn (fun a ha => by cases ha; exact Nat.le_of_ble_eq_true rfl) (z_cn z_rki (z_cn z_rki (fun _ h => absurd h List.not_mem_nil)))) rfl (by decide) hwf hP hD hS hl.1 rfl (Nat.le_of_ble_eq_true rfl) ⟨Nat.le_refl _, Nat.le_refl _⟩ dL_law_440 (fun ρ1 H1 locs1 hwf1 hρ1 hP1 hD1 hS1 => ?_)
      rw [z_W_cg hwf1 hρ1] at hP1 hD1
      clear hP hD hS hwf
      have hP := hP1
      have hD := hD1
      have hS := hS1
      have hwf := hwf1
      clear hP1 hD1 hS1 hwf1 hρ1
      refine lv_icmp_eq (tgt := 1105) hx hb dL_law_443 (by decide) (fun _ => ?_) (fun q => absurd rfl q)
      exact hend M2 _ _ hI2 hwf hP hD hS
    | 8, _ =>
      refine lv_tableIn (tgt := 448) (off := 415) hx hb dL_law_33 (by decide) (by decide) (by decide) (by decide) ?_
      refine lv_aload_n hx hb dL_law_448 rfl (lv_at hl 1 rfl) ?_
      refine lv_aload_n hx hb dL_law_449 rfl (lv_at hl 0 rfl) ?_
      refine lv_iload_n hx hb dL_law_450 rfl (lv_at hl 3 rfl) ?_
      refine lv_iconst (v := 1) hx hb dL_law_451 (by decide) ?_
      refine lv_iadd hx hb dL_law_452 ?_
      refine va_sld hx hb hX hbl hbA hS (hin 1 (by decide)) dL_law_453 ?_
      refine lv_aload_n hx hb dL_law_454 rfl (lv_at hl 0 rfl) ?_
      refine lv_iload_n hx hb dL_law_455 rfl (lv_at hl 3 rfl) ?_
      refine lv_iconst (v := 2) hx hb dL_law_456 (by decide) ?_
      refine lv_iadd hx hb dL_law_457 ?_
      refine va_sld hx hb hX hbl hbA hS (hin 2 (by decide)) dL_law_458 ?_
      obtain ⟨v, M1, M2, c1, c2, hI2⟩ := hok.2.2.2.2.2.2.2.2.1 M hI ((xs (nI i + 1).toNatClampNeg)) ((xs (nI i + 2).toNatClampNeg))
      refine w_cVi (av := [.int (xs (nI i + 1).toNatClampNeg), .int (xs (nI i + 2).toNatClampNeg)]) (rest := []) C (t_X11_roomIs tm0 c1) kw_X11_roomIs tm0 lk_L_50 (z_cn (fun a ha => by cases ha; exact Nat.le_of_ble_eq_true rfl) (z_cn z_rki (z_cn z_rki (fun _ h => absurd h List.not_mem_nil)))) rfl (by decide) hwf hP hD hS hl.1 rfl (Nat.le_of_ble_eq_true rfl) ⟨Nat.le_refl _, Nat.le_refl _⟩ dL_law_459 (fun ρ1 H1 locs1 hwf1 hρ1 hP1 hD1 hS1 => ?_)
      rw [z_W_cg hwf1 hρ1] at hP1 hD1
      clear hP hD hS hwf
      have hP := hP1
      have hD := hD1
      have hS := hS1
      have hwf := hwf1
      clear hP1 hD1 hS1 hwf1 hρ1
      refine lv_aload_n hx hb dL_law_462 rfl (lv_at hl 2 rfl) ?_
      refine lv_aload_n hx hb dL_law_463 rfl (lv_at hl 0 rfl) ?_
      refine lv_iload_n hx hb dL_law_464 rfl (lv_at hl 3 rfl) ?_
      refine lv_iconst (v := 1) hx hb dL_law_465 (by decide) ?_
      refine lv_iadd hx hb dL_law_466 ?_
      refine va_sld hx hb hX hbl hbA hS (hin 1 (by decide)) dL_law_467 ?_
      refine lv_aload_n hx hb dL_law_468 rfl (lv_at hl 0 rfl) ?_
      refine lv_iload_n hx hb dL_law_469 rfl (lv_at hl 3 rfl) ?_
      refine lv_iconst (v := 2) hx hb dL_law_470 (by decide) ?_
      refine lv_iadd hx hb dL_law_471 ?_
      refine va_sld hx hb hX hbl hbA hS (hin 2 (by decide)) dL_law_472 ?_
      refine w_cVi (av := [.int (xs (nI i + 1).toNatClampNeg), .int (xs (nI i + 2).toNatClampNeg)]) (rest := [.int v]) C (t_X12_roomIs tm54 c2) kw_X12_roomIs tm54 lk_L_53 (z_cn (fun a ha => by cases ha; exact Nat.le_of_ble_eq_true rfl) (z_cn z_rki (z_cn z_rki (fun _ h => absurd h List.not_mem_nil)))) rfl (by decide) hwf hP hD hS hl.1 rfl (Nat.le_of_ble_eq_true rfl) ⟨Nat.le_refl _, Nat.le_refl _⟩ dL_law_473 (fun ρ1 H1 locs1 hwf1 hρ1 hP1 hD1 hS1 => ?_)
      rw [z_W_cg hwf1 hρ1] at hP1 hD1
      clear hP hD hS hwf
      have hP := hP1
      have hD := hD1
      have hS := hS1
      have hwf := hwf1
      clear hP1 hD1 hS1 hwf1 hρ1
      refine lv_icmp_eq (tgt := 1105) hx hb dL_law_476 (by decide) (fun _ => ?_) (fun q => absurd rfl q)
      exact hend M2 _ _ hI2 hwf hP hD hS
    | 9, _ =>
      refine lv_tableIn (tgt := 481) (off := 448) hx hb dL_law_33 (by decide) (by decide) (by decide) (by decide) ?_
      refine lv_aload_n hx hb dL_law_481 rfl (lv_at hl 1 rfl) ?_
      refine lv_aload_n hx hb dL_law_482 rfl (lv_at hl 0 rfl) ?_
      refine lv_iload_n hx hb dL_law_483 rfl (lv_at hl 3 rfl) ?_
      refine lv_iconst (v := 1) hx hb dL_law_484 (by decide) ?_
      refine lv_iadd hx hb dL_law_485 ?_
      refine va_sld hx hb hX hbl hbA hS (hin 1 (by decide)) dL_law_486 ?_
      refine lv_aload_n hx hb dL_law_487 rfl (lv_at hl 0 rfl) ?_
      refine lv_iload_n hx hb dL_law_488 rfl (lv_at hl 3 rfl) ?_
      refine lv_iconst (v := 2) hx hb dL_law_489 (by decide) ?_
      refine lv_iadd hx hb dL_law_490 ?_
      refine va_sld hx hb hX hbl hbA hS (hin 2 (by decide)) dL_law_491 ?_
      obtain ⟨v, M1, M2, c1, c2, hI2⟩ := hok.2.2.2.2.2.2.2.2.2.1 M hI ((xs (nI i + 1).toNatClampNeg)) ((xs (nI i + 2).toNatClampNeg))
      refine w_cVi (av := [.int (xs (nI i + 1).toNatClampNeg), .int (xs (nI i + 2).toNatClampNeg)]) (rest := []) C (t_X11_feels tm0 c1) kw_X11_feels tm0 lk_L_54 (z_cn (fun a ha => by cases ha; exact Nat.le_of_ble_eq_true rfl) (z_cn z_rki (z_cn z_rki (fun _ h => absurd h List.not_mem_nil)))) rfl (by decide) hwf hP hD hS hl.1 rfl (Nat.le_of_ble_eq_true rfl) ⟨Nat.le_refl _, Nat.le_refl _⟩ dL_law_492 (fun ρ1 H1 locs1 hwf1 hρ1 hP1 hD1 hS1 => ?_)
      rw [z_W_cg hwf1 hρ1] at hP1 hD1
      clear hP hD hS hwf
      have hP := hP1
      have hD := hD1
      have hS := hS1
      have hwf := hwf1
      clear hP1 hD1 hS1 hwf1 hρ1
      refine lv_aload_n hx hb dL_law_495 rfl (lv_at hl 2 rfl) ?_
      refine lv_aload_n hx hb dL_law_496 rfl (lv_at hl 0 rfl) ?_
      refine lv_iload_n hx hb dL_law_497 rfl (lv_at hl 3 rfl) ?_
      refine lv_iconst (v := 1) hx hb dL_law_498 (by decide) ?_
      refine lv_iadd hx hb dL_law_499 ?_
      refine va_sld hx hb hX hbl hbA hS (hin 1 (by decide)) dL_law_500 ?_
      refine lv_aload_n hx hb dL_law_501 rfl (lv_at hl 0 rfl) ?_
      refine lv_iload_n hx hb dL_law_502 rfl (lv_at hl 3 rfl) ?_
      refine lv_iconst (v := 2) hx hb dL_law_503 (by decide) ?_
      refine lv_iadd hx hb dL_law_504 ?_
      refine va_sld hx hb hX hbl hbA hS (hin 2 (by decide)) dL_law_505 ?_
      refine w_cVi (av := [.int (xs (nI i + 1).toNatClampNeg), .int (xs (nI i + 2).toNatClampNeg)]) (rest := [.int v]) C (t_X12_feels tm54 c2) kw_X12_feels tm54 lk_L_57 (z_cn (fun a ha => by cases ha; exact Nat.le_of_ble_eq_true rfl) (z_cn z_rki (z_cn z_rki (fun _ h => absurd h List.not_mem_nil)))) rfl (by decide) hwf hP hD hS hl.1 rfl (Nat.le_of_ble_eq_true rfl) ⟨Nat.le_refl _, Nat.le_refl _⟩ dL_law_506 (fun ρ1 H1 locs1 hwf1 hρ1 hP1 hD1 hS1 => ?_)
      rw [z_W_cg hwf1 hρ1] at hP1 hD1
      clear hP hD hS hwf
      have hP := hP1
      have hD := hD1
      have hS := hS1
      have hwf := hwf1
      clear hP1 hD1 hS1 hwf1 hρ1
      refine lv_icmp_eq (tgt := 1105) hx hb dL_law_509 (by decide) (fun _ => ?_) (fun q => absurd rfl q)
      exact hend M2 _ _ hI2 hwf hP hD hS
    | 10, _ =>
      refine lv_tableIn (tgt := 514) (off := 481) hx hb dL_law_33 (by decide) (by decide) (by decide) (by decide) ?_
      refine lv_aload_n hx hb dL_law_514 rfl (lv_at hl 1 rfl) ?_
      refine lv_aload_n hx hb dL_law_515 rfl (lv_at hl 0 rfl) ?_
      refine lv_iload_n hx hb dL_law_516 rfl (lv_at hl 3 rfl) ?_
      refine lv_iconst (v := 1) hx hb dL_law_517 (by decide) ?_
      refine lv_iadd hx hb dL_law_518 ?_
      refine va_sld hx hb hX hbl hbA hS (hin 1 (by decide)) dL_law_519 ?_
      refine lv_aload_n hx hb dL_law_520 rfl (lv_at hl 0 rfl) ?_
      refine lv_iload_n hx hb dL_law_521 rfl (lv_at hl 3 rfl) ?_
      refine lv_iconst (v := 2) hx hb dL_law_522 (by decide) ?_
      refine lv_iadd hx hb dL_law_523 ?_
      refine va_sld hx hb hX hbl hbA hS (hin 2 (by decide)) dL_law_524 ?_
      obtain ⟨v, M1, M2, c1, c2, hI2⟩ := hok.2.2.2.2.2.2.2.2.2.2.1 M hI ((xs (nI i + 1).toNatClampNeg)) ((xs (nI i + 2).toNatClampNeg))
      refine w_cVi (av := [.int (xs (nI i + 1).toNatClampNeg), .int (xs (nI i + 2).toNatClampNeg)]) (rest := []) C (t_X11_way tm0 c1) kw_X11_way tm0 lk_L_58 (z_cn (fun a ha => by cases ha; exact Nat.le_of_ble_eq_true rfl) (z_cn z_rki (z_cn z_rki (fun _ h => absurd h List.not_mem_nil)))) rfl (by decide) hwf hP hD hS hl.1 rfl (Nat.le_of_ble_eq_true rfl) ⟨Nat.le_refl _, Nat.le_refl _⟩ dL_law_525 (fun ρ1 H1 locs1 hwf1 hρ1 hP1 hD1 hS1 => ?_)
      rw [z_W_cg hwf1 hρ1] at hP1 hD1
      clear hP hD hS hwf
      have hP := hP1
      have hD := hD1
      have hS := hS1
      have hwf := hwf1
      clear hP1 hD1 hS1 hwf1 hρ1
      refine lv_aload_n hx hb dL_law_528 rfl (lv_at hl 2 rfl) ?_
      refine lv_aload_n hx hb dL_law_529 rfl (lv_at hl 0 rfl) ?_
      refine lv_iload_n hx hb dL_law_530 rfl (lv_at hl 3 rfl) ?_
      refine lv_iconst (v := 1) hx hb dL_law_531 (by decide) ?_
      refine lv_iadd hx hb dL_law_532 ?_
      refine va_sld hx hb hX hbl hbA hS (hin 1 (by decide)) dL_law_533 ?_
      refine lv_aload_n hx hb dL_law_534 rfl (lv_at hl 0 rfl) ?_
      refine lv_iload_n hx hb dL_law_535 rfl (lv_at hl 3 rfl) ?_
      refine lv_iconst (v := 2) hx hb dL_law_536 (by decide) ?_
      refine lv_iadd hx hb dL_law_537 ?_
      refine va_sld hx hb hX hbl hbA hS (hin 2 (by decide)) dL_law_538 ?_
      refine w_cVi (av := [.int (xs (nI i + 1).toNatClampNeg), .int (xs (nI i + 2).toNatClampNeg)]) (rest := [.int v]) C (t_X12_way tm54 c2) kw_X12_way tm54 lk_L_61 (z_cn (fun a ha => by cases ha; exact Nat.le_of_ble_eq_true rfl) (z_cn z_rki (z_cn z_rki (fun _ h => absurd h List.not_mem_nil)))) rfl (by decide) hwf hP hD hS hl.1 rfl (Nat.le_of_ble_eq_true rfl) ⟨Nat.le_refl _, Nat.le_refl _⟩ dL_law_539 (fun ρ1 H1 locs1 hwf1 hρ1 hP1 hD1 hS1 => ?_)
      rw [z_W_cg hwf1 hρ1] at hP1 hD1
      clear hP hD hS hwf
      have hP := hP1
      have hD := hD1
      have hS := hS1
      have hwf := hwf1
      clear hP1 hD1 hS1 hwf1 hρ1
      refine lv_icmp_eq (tgt := 1105) hx hb dL_law_542 (by decide) (fun _ => ?_) (fun q => absurd rfl q)
      exact hend M2 _ _ hI2 hwf hP hD hS
    | 11, _ =>
      refine lv_tableIn (tgt := 547) (off := 514) hx hb dL_law_33 (by decide) (by decide) (by decide) (by decide) ?_
      refine lv_aload_n hx hb dL_law_547 rfl (lv_at hl 1 rfl) ?_
      refine lv_aload_n hx hb dL_law_548 rfl (lv_at hl 0 rfl) ?_
      refine lv_iload_n hx hb dL_law_549 rfl (lv_at hl 3 rfl) ?_
      refine lv_iconst (v := 1) hx hb dL_law_550 (by decide) ?_
      refine lv_iadd hx hb dL_law_551 ?_
      refine va_sld hx hb hX hbl hbA hS (hin 1 (by decide)) dL_law_552 ?_
      refine lv_aload_n hx hb dL_law_553 rfl (lv_at hl 0 rfl) ?_
      refine lv_iload_n hx hb dL_law_554 rfl (lv_at hl 3 rfl) ?_
      refine lv_iconst (v := 2) hx hb dL_law_555 (by decide) ?_
      refine lv_iadd hx hb dL_law_556 ?_
      refine va_sld hx hb hX hbl hbA hS (hin 2 (by decide)) dL_law_557 ?_
      refine lv_aload_n hx hb dL_law_558 rfl (lv_at hl 0 rfl) ?_
      refine lv_iload_n hx hb dL_law_559 rfl (lv_at hl 3 rfl) ?_
      refine lv_iconst (v := 3) hx hb dL_law_560 (by decide) ?_
      refine lv_iadd hx hb dL_law_561 ?_
      refine va_sld hx hb hX hbl hbA hS (hin 3 (by decide)) dL_law_562 ?_
      refine lv_aload_n hx hb dL_law_563 rfl (lv_at hl 0 rfl) ?_
      refine lv_iload_n hx hb dL_law_564 rfl (lv_at hl 3 rfl) ?_
      refine lv_iconst (v := 4) hx hb dL_law_565 (by decide) ?_
      refine lv_iadd hx hb dL_law_566 ?_
      refine va_sld hx hb hX hbl hbA hS (hin 4 (by decide)) dL_law_567 ?_
      obtain ⟨v, M1, M2, c1, c2, hI2⟩ := hok.2.2.2.2.2.2.2.2.2.2.2.1 M hI ((xs (nI i + 1).toNatClampNeg)) ((xs (nI i + 2).toNatClampNeg)) ((xs (nI i + 3).toNatClampNeg)) ((xs (nI i + 4).toNatClampNeg))
      refine w_cVi (av := [.int (xs (nI i + 1).toNatClampNeg), .int (xs (nI i + 2).toNatClampNeg), .int (xs (nI i + 3).toNatClampNeg), .int (xs (nI i + 4).toNatClampNeg)]) (rest := []) C (t_X11_odds tm0 c1) kw_X11_odds tm0 lk_L_62 (z_cn (fun a ha => by cases ha; exact Nat.le_of_ble_eq_true rfl) (z_cn z_rki (z_cn z_rki (z_cn z_rki (z_cn z_rki (fun _ h => absurd h List.not_mem_nil)))))) rfl (by decide) hwf hP hD hS hl.1 rfl (Nat.le_of_ble_eq_true rfl) ⟨Nat.le_refl _, Nat.le_refl _⟩ dL_law_568 (fun ρ1 H1 locs1 hwf1 hρ1 hP1 hD1 hS1 => ?_)
      rw [z_W_cg hwf1 hρ1] at hP1 hD1
      clear hP hD hS hwf
      have hP := hP1
      have hD := hD1
      have hS := hS1
      have hwf := hwf1
      clear hP1 hD1 hS1 hwf1 hρ1
      refine lv_aload_n hx hb dL_law_571 rfl (lv_at hl 2 rfl) ?_
      refine lv_aload_n hx hb dL_law_572 rfl (lv_at hl 0 rfl) ?_
      refine lv_iload_n hx hb dL_law_573 rfl (lv_at hl 3 rfl) ?_
      refine lv_iconst (v := 1) hx hb dL_law_574 (by decide) ?_
      refine lv_iadd hx hb dL_law_575 ?_
      refine va_sld hx hb hX hbl hbA hS (hin 1 (by decide)) dL_law_576 ?_
      refine lv_aload_n hx hb dL_law_577 rfl (lv_at hl 0 rfl) ?_
      refine lv_iload_n hx hb dL_law_578 rfl (lv_at hl 3 rfl) ?_
      refine lv_iconst (v := 2) hx hb dL_law_579 (by decide) ?_
      refine lv_iadd hx hb dL_law_580 ?_
      refine va_sld hx hb hX hbl hbA hS (hin 2 (by decide)) dL_law_581 ?_
      refine lv_aload_n hx hb dL_law_582 rfl (lv_at hl 0 rfl) ?_
      refine lv_iload_n hx hb dL_law_583 rfl (lv_at hl 3 rfl) ?_
      refine lv_iconst (v := 3) hx hb dL_law_584 (by decide) ?_
      refine lv_iadd hx hb dL_law_585 ?_
      refine va_sld hx hb hX hbl hbA hS (hin 3 (by decide)) dL_law_586 ?_
      refine lv_aload_n hx hb dL_law_587 rfl (lv_at hl 0 rfl) ?_
      refine lv_iload_n hx hb dL_law_588 rfl (lv_at hl 3 rfl) ?_
      refine lv_iconst (v := 4) hx hb dL_law_589 (by decide) ?_
      refine lv_iadd hx hb dL_law_590 ?_
      refine va_sld hx hb hX hbl hbA hS (hin 4 (by decide)) dL_law_591 ?_
      refine w_cVi (av := [.int (xs (nI i + 1).toNatClampNeg), .int (xs (nI i + 2).toNatClampNeg), .int (xs (nI i + 3).toNatClampNeg), .int (xs (nI i + 4).toNatClampNeg)]) (rest := [.int v]) C (t_X12_odds tm54 c2) kw_X12_odds tm54 lk_L_66 (z_cn (fun a ha => by cases ha; exact Nat.le_of_ble_eq_true rfl) (z_cn z_rki (z_cn z_rki (z_cn z_rki (z_cn z_rki (fun _ h => absurd h List.not_mem_nil)))))) rfl (by decide) hwf hP hD hS hl.1 rfl (Nat.le_of_ble_eq_true rfl) ⟨Nat.le_refl _, Nat.le_refl _⟩ dL_law_592 (fun ρ1 H1 locs1 hwf1 hρ1 hP1 hD1 hS1 => ?_)
      rw [z_W_cg hwf1 hρ1] at hP1 hD1
      clear hP hD hS hwf
      have hP := hP1
      have hD := hD1
      have hS := hS1
      have hwf := hwf1
      clear hP1 hD1 hS1 hwf1 hρ1
      refine lv_icmp_eq (tgt := 1105) hx hb dL_law_595 (by decide) (fun _ => ?_) (fun q => absurd rfl q)
      exact hend M2 _ _ hI2 hwf hP hD hS
    | 12, _ =>
      refine lv_tableIn (tgt := 600) (off := 567) hx hb dL_law_33 (by decide) (by decide) (by decide) (by decide) ?_
      refine lv_aload_n hx hb dL_law_600 rfl (lv_at hl 1 rfl) ?_
      refine lv_aload_n hx hb dL_law_601 rfl (lv_at hl 0 rfl) ?_
      refine lv_iload_n hx hb dL_law_602 rfl (lv_at hl 3 rfl) ?_
      refine lv_iconst (v := 1) hx hb dL_law_603 (by decide) ?_
      refine lv_iadd hx hb dL_law_604 ?_
      refine va_sld hx hb hX hbl hbA hS (hin 1 (by decide)) dL_law_605 ?_
      obtain ⟨v, M1, M2, c1, c2, hI2⟩ := hok.2.2.2.2.2.2.2.2.2.2.2.2.1 M hI ((xs (nI i + 1).toNatClampNeg))
      refine w_cVi (av := [.int (xs (nI i + 1).toNatClampNeg)]) (rest := []) C (t_X11_fromWhere tm0 c1) kw_X11_fromWhere tm0 lk_L_67 (z_cn (fun a ha => by cases ha; exact Nat.le_of_ble_eq_true rfl) (z_cn z_rki (fun _ h => absurd h List.not_mem_nil))) rfl (by decide) hwf hP hD hS hl.1 rfl (Nat.le_of_ble_eq_true rfl) ⟨Nat.le_refl _, Nat.le_refl _⟩ dL_law_606 (fun ρ1 H1 locs1 hwf1 hρ1 hP1 hD1 hS1 => ?_)
      rw [z_W_cg hwf1 hρ1] at hP1 hD1
      clear hP hD hS hwf
      have hP := hP1
      have hD := hD1
      have hS := hS1
      have hwf := hwf1
      clear hP1 hD1 hS1 hwf1 hρ1
      refine lv_aload_n hx hb dL_law_609 rfl (lv_at hl 2 rfl) ?_
      refine lv_aload_n hx hb dL_law_610 rfl (lv_at hl 0 rfl) ?_
      refine lv_iload_n hx hb dL_law_611 rfl (lv_at hl 3 rfl) ?_
      refine lv_iconst (v := 1) hx hb dL_law_612 (by decide) ?_
      refine lv_iadd hx hb dL_law_613 ?_
      refine va_sld hx hb hX hbl hbA hS (hin 1 (by decide)) dL_law_614 ?_
      refine w_cVi (av := [.int (xs (nI i + 1).toNatClampNeg)]) (rest := [.int v]) C (t_X12_fromWhere tm54 c2) kw_X12_fromWhere tm54 lk_L_70 (z_cn (fun a ha => by cases ha; exact Nat.le_of_ble_eq_true rfl) (z_cn z_rki (fun _ h => absurd h List.not_mem_nil))) rfl (by decide) hwf hP hD hS hl.1 rfl (Nat.le_of_ble_eq_true rfl) ⟨Nat.le_refl _, Nat.le_refl _⟩ dL_law_615 (fun ρ1 H1 locs1 hwf1 hρ1 hP1 hD1 hS1 => ?_)
      rw [z_W_cg hwf1 hρ1] at hP1 hD1
      clear hP hD hS hwf
      have hP := hP1
      have hD := hD1
      have hS := hS1
      have hwf := hwf1
      clear hP1 hD1 hS1 hwf1 hρ1
      refine lv_icmp_eq (tgt := 1105) hx hb dL_law_618 (by decide) (fun _ => ?_) (fun q => absurd rfl q)
      exact hend M2 _ _ hI2 hwf hP hD hS
    | 13, _ =>
      refine lv_tableIn (tgt := 623) (off := 590) hx hb dL_law_33 (by decide) (by decide) (by decide) (by decide) ?_
      refine lv_aload_n hx hb dL_law_623 rfl (lv_at hl 1 rfl) ?_
      refine lv_aload_n hx hb dL_law_624 rfl (lv_at hl 0 rfl) ?_
      refine lv_iload_n hx hb dL_law_625 rfl (lv_at hl 3 rfl) ?_
      refine lv_iconst (v := 1) hx hb dL_law_626 (by decide) ?_
      refine lv_iadd hx hb dL_law_627 ?_
      refine va_sld hx hb hX hbl hbA hS (hin 1 (by decide)) dL_law_628 ?_
      refine lv_aload_n hx hb dL_law_629 rfl (lv_at hl 0 rfl) ?_
      refine lv_iload_n hx hb dL_law_630 rfl (lv_at hl 3 rfl) ?_
      refine lv_iconst (v := 2) hx hb dL_law_631 (by decide) ?_
      refine lv_iadd hx hb dL_law_632 ?_
      refine va_sld hx hb hX hbl hbA hS (hin 2 (by decide)) dL_law_633 ?_
      obtain ⟨v, M1, M2, c1, c2, hI2⟩ := hok.2.2.2.2.2.2.2.2.2.2.2.2.2.1 M hI ((xs (nI i + 1).toNatClampNeg)) ((xs (nI i + 2).toNatClampNeg))
      refine w_cVi (av := [.int (xs (nI i + 1).toNatClampNeg), .int (xs (nI i + 2).toNatClampNeg)]) (rest := []) C (t_X11_meet tm0 c1) kw_X11_meet tm0 lk_L_71 (z_cn (fun a ha => by cases ha; exact Nat.le_of_ble_eq_true rfl) (z_cn z_rki (z_cn z_rki (fun _ h => absurd h List.not_mem_nil)))) rfl (by decide) hwf hP hD hS hl.1 rfl (Nat.le_of_ble_eq_true rfl) ⟨Nat.le_refl _, Nat.le_refl _⟩ dL_law_634 (fun ρ1 H1 locs1 hwf1 hρ1 hP1 hD1 hS1 => ?_)
      rw [z_W_cg hwf1 hρ1] at hP1 hD1
      clear hP hD hS hwf
      have hP := hP1
      have hD := hD1
      have hS := hS1
      have hwf := hwf1
      clear hP1 hD1 hS1 hwf1 hρ1
      refine lv_aload_n hx hb dL_law_637 rfl (lv_at hl 2 rfl) ?_
      refine lv_aload_n hx hb dL_law_638 rfl (lv_at hl 0 rfl) ?_
      refine lv_iload_n hx hb dL_law_639 rfl (lv_at hl 3 rfl) ?_
      refine lv_iconst (v := 1) hx hb dL_law_640 (by decide) ?_
      refine lv_iadd hx hb dL_law_641 ?_
      refine va_sld hx hb hX hbl hbA hS (hin 1 (by decide)) dL_law_642 ?_
      refine lv_aload_n hx hb dL_law_643 rfl (lv_at hl 0 rfl) ?_
      refine lv_iload_n hx hb dL_law_644 rfl (lv_at hl 3 rfl) ?_
      refine lv_iconst (v := 2) hx hb dL_law_645 (by decide) ?_
      refine lv_iadd hx hb dL_law_646 ?_
      refine va_sld hx hb hX hbl hbA hS (hin 2 (by decide)) dL_law_647 ?_
      refine w_cVi (av := [.int (xs (nI i + 1).toNatClampNeg), .int (xs (nI i + 2).toNatClampNeg)]) (rest := [.int v]) C (t_X12_meet tm54 c2) kw_X12_meet tm54 lk_L_74 (z_cn (fun a ha => by cases ha; exact Nat.le_of_ble_eq_true rfl) (z_cn z_rki (z_cn z_rki (fun _ h => absurd h List.not_mem_nil)))) rfl (by decide) hwf hP hD hS hl.1 rfl (Nat.le_of_ble_eq_true rfl) ⟨Nat.le_refl _, Nat.le_refl _⟩ dL_law_648 (fun ρ1 H1 locs1 hwf1 hρ1 hP1 hD1 hS1 => ?_)
      rw [z_W_cg hwf1 hρ1] at hP1 hD1
      clear hP hD hS hwf
      have hP := hP1
      have hD := hD1
      have hS := hS1
      have hwf := hwf1
      clear hP1 hD1 hS1 hwf1 hρ1
      refine lv_icmp_eq (tgt := 1105) hx hb dL_law_651 (by decide) (fun _ => ?_) (fun q => absurd rfl q)
      exact hend M2 _ _ hI2 hwf hP hD hS
    | 14, _ =>
      refine lv_tableIn (tgt := 656) (off := 623) hx hb dL_law_33 (by decide) (by decide) (by decide) (by decide) ?_
      refine lv_aload_n hx hb dL_law_656 rfl (lv_at hl 1 rfl) ?_
      obtain ⟨v, M1, M2, c1, c2, hI2⟩ := hok.2.2.2.2.2.2.2.2.2.2.2.2.2.2.1 M hI ()
      refine w_cVi (av := []) (rest := []) C (t_X11_cowls tm0 c1) kw_X11_cowls tm0 lk_L_75 (z_cn (fun a ha => by cases ha; exact Nat.le_of_ble_eq_true rfl) (fun _ h => absurd h List.not_mem_nil)) rfl (by decide) hwf hP hD hS hl.1 rfl (Nat.le_of_ble_eq_true rfl) ⟨Nat.le_refl _, Nat.le_refl _⟩ dL_law_657 (fun ρ1 H1 locs1 hwf1 hρ1 hP1 hD1 hS1 => ?_)
      rw [z_W_cg hwf1 hρ1] at hP1 hD1
      clear hP hD hS hwf
      have hP := hP1
      have hD := hD1
      have hS := hS1
      have hwf := hwf1
      clear hP1 hD1 hS1 hwf1 hρ1
      refine lv_aload_n hx hb dL_law_660 rfl (lv_at hl 2 rfl) ?_
      refine w_cVi (av := []) (rest := [.int v]) C (t_X12_cowls tm54 c2) kw_X12_cowls tm54 lk_L_79 (z_cn (fun a ha => by cases ha; exact Nat.le_of_ble_eq_true rfl) (fun _ h => absurd h List.not_mem_nil)) rfl (by decide) hwf hP hD hS hl.1 rfl (Nat.le_of_ble_eq_true rfl) ⟨Nat.le_refl _, Nat.le_refl _⟩ dL_law_661 (fun ρ1 H1 locs1 hwf1 hρ1 hP1 hD1 hS1 => ?_)
      rw [z_W_cg hwf1 hρ1] at hP1 hD1
      clear hP hD hS hwf
      have hP := hP1
      have hD := hD1
      have hS := hS1
      have hwf := hwf1
      clear hP1 hD1 hS1 hwf1 hρ1
      refine lv_icmp_eq (tgt := 1105) hx hb dL_law_664 (by decide) (fun _ => ?_) (fun q => absurd rfl q)
      exact hend M2 _ _ hI2 hwf hP hD hS
    | 15, _ =>
      refine lv_tableIn (tgt := 669) (off := 636) hx hb dL_law_33 (by decide) (by decide) (by decide) (by decide) ?_
      refine lv_aload_n hx hb dL_law_669 rfl (lv_at hl 1 rfl) ?_
      refine lv_aload_n hx hb dL_law_670 rfl (lv_at hl 0 rfl) ?_
      refine lv_iload_n hx hb dL_law_671 rfl (lv_at hl 3 rfl) ?_
      refine lv_iconst (v := 1) hx hb dL_law_672 (by decide) ?_
      refine lv_iadd hx hb dL_law_673 ?_
      refine va_sld hx hb hX hbl hbA hS (hin 1 (by decide)) dL_law_674 ?_
      refine lv_aload_n hx hb dL_law_675 rfl (lv_at hl 0 rfl) ?_
      refine lv_iload_n hx hb dL_law_676 rfl (lv_at hl 3 rfl) ?_
      refine lv_iconst (v := 2) hx hb dL_law_677 (by decide) ?_
      refine lv_iadd hx hb dL_law_678 ?_
      refine va_sld hx hb hX hbl hbA hS (hin 2 (by decide)) dL_law_679 ?_
      refine lv_aload_n hx hb dL_law_680 rfl (lv_at hl 0 rfl) ?_
      refine lv_iload_n hx hb dL_law_681 rfl (lv_at hl 3 rfl) ?_
      refine lv_iconst (v := 3) hx hb dL_law_682 (by decide) ?_
      refine lv_iadd hx hb dL_law_683 ?_
      refine va_sld hx hb hX hbl hbA hS (hin 3 (by decide)) dL_law_684 ?_
      obtain ⟨v, M1, M2, c1, c2, hI2⟩ := hok.2.2.2.2.2.2.2.2.2.2.2.2.2.2.2.1 M hI ((xs (nI i + 1).toNatClampNeg)) ((xs (nI i + 2).toNatClampNeg)) ((xs (nI i + 3).toNatClampNeg))
      refine w_cVi (av := [.int (xs (nI i + 1).toNatClampNeg), .int (xs (nI i + 2).toNatClampNeg), .int (xs (nI i + 3).toNatClampNeg)]) (rest := []) C (t_X11_turn tm0 c1) kw_X11_turn tm0 lk_L_80 (z_cn (fun a ha => by cases ha; exact Nat.le_of_ble_eq_true rfl) (z_cn z_rki (z_cn z_rki (z_cn z_rki (fun _ h => absurd h List.not_mem_nil))))) rfl (by decide) hwf hP hD hS hl.1 rfl (Nat.le_of_ble_eq_true rfl) ⟨Nat.le_refl _, Nat.le_refl _⟩ dL_law_685 (fun ρ1 H1 locs1 hwf1 hρ1 hP1 hD1 hS1 => ?_)
      rw [z_W_cg hwf1 hρ1] at hP1 hD1
      clear hP hD hS hwf
      have hP := hP1
      have hD := hD1
      have hS := hS1
      have hwf := hwf1
      clear hP1 hD1 hS1 hwf1 hρ1
      refine lv_aload_n hx hb dL_law_688 rfl (lv_at hl 2 rfl) ?_
      refine lv_aload_n hx hb dL_law_689 rfl (lv_at hl 0 rfl) ?_
      refine lv_iload_n hx hb dL_law_690 rfl (lv_at hl 3 rfl) ?_
      refine lv_iconst (v := 1) hx hb dL_law_691 (by decide) ?_
      refine lv_iadd hx hb dL_law_692 ?_
      refine va_sld hx hb hX hbl hbA hS (hin 1 (by decide)) dL_law_693 ?_
      refine lv_aload_n hx hb dL_law_694 rfl (lv_at hl 0 rfl) ?_
      refine lv_iload_n hx hb dL_law_695 rfl (lv_at hl 3 rfl) ?_
      refine lv_iconst (v := 2) hx hb dL_law_696 (by decide) ?_
      refine lv_iadd hx hb dL_law_697 ?_
      refine va_sld hx hb hX hbl hbA hS (hin 2 (by decide)) dL_law_698 ?_
      refine lv_aload_n hx hb dL_law_699 rfl (lv_at hl 0 rfl) ?_
      refine lv_iload_n hx hb dL_law_700 rfl (lv_at hl 3 rfl) ?_
      refine lv_iconst (v := 3) hx hb dL_law_701 (by decide) ?_
      refine lv_iadd hx hb dL_law_702 ?_
      refine va_sld hx hb hX hbl hbA hS (hin 3 (by decide)) dL_law_703 ?_
      refine w_cVi (av := [.int (xs (nI i + 1).toNatClampNeg), .int (xs (nI i + 2).toNatClampNeg), .int (xs (nI i + 3).toNatClampNeg)]) (rest := [.int v]) C (t_X12_turn tm54 c2) kw_X12_turn tm54 lk_L_84 (z_cn (fun a ha => by cases ha; exact Nat.le_of_ble_eq_true rfl) (z_cn z_rki (z_cn z_rki (z_cn z_rki (fun _ h => absurd h List.not_mem_nil))))) rfl (by decide) hwf hP hD hS hl.1 rfl (Nat.le_of_ble_eq_true rfl) ⟨Nat.le_refl _, Nat.le_refl _⟩ dL_law_704 (fun ρ1 H1 locs1 hwf1 hρ1 hP1 hD1 hS1 => ?_)
      rw [z_W_cg hwf1 hρ1] at hP1 hD1
      clear hP hD hS hwf
      have hP := hP1
      have hD := hD1
      have hS := hS1
      have hwf := hwf1
      clear hP1 hD1 hS1 hwf1 hρ1
      refine lv_icmp_eq (tgt := 1105) hx hb dL_law_707 (by decide) (fun _ => ?_) (fun q => absurd rfl q)
      exact hend M2 _ _ hI2 hwf hP hD hS
    | 16, _ =>
      refine lv_tableIn (tgt := 712) (off := 679) hx hb dL_law_33 (by decide) (by decide) (by decide) (by decide) ?_
      refine lv_aload_n hx hb dL_law_712 rfl (lv_at hl 1 rfl) ?_
      refine lv_aload_n hx hb dL_law_713 rfl (lv_at hl 0 rfl) ?_
      refine lv_iload_n hx hb dL_law_714 rfl (lv_at hl 3 rfl) ?_
      refine lv_iconst (v := 1) hx hb dL_law_715 (by decide) ?_
      refine lv_iadd hx hb dL_law_716 ?_
      refine va_sld hx hb hX hbl hbA hS (hin 1 (by decide)) dL_law_717 ?_
      refine lv_aload_n hx hb dL_law_718 rfl (lv_at hl 0 rfl) ?_
      refine lv_iload_n hx hb dL_law_719 rfl (lv_at hl 3 rfl) ?_
      refine lv_iconst (v := 2) hx hb dL_law_720 (by decide) ?_
      refine lv_iadd hx hb dL_law_721 ?_
      refine va_sld hx hb hX hbl hbA hS (hin 2 (by decide)) dL_law_722 ?_
      obtain ⟨v, M1, M2, c1, c2, hI2⟩ := hok.2.2.2.2.2.2.2.2.2.2.2.2.2.2.2.2.1 M hI ((xs (nI i + 1).toNatClampNeg)) ((xs (nI i + 2).toNatClampNeg))
      refine w_cVi (av := [.int (xs (nI i + 1).toNatClampNeg), .int (xs (nI i + 2).toNatClampNeg)]) (rest := []) C (t_X11_ways tm0 c1) kw_X11_ways tm0 lk_L_85 (z_cn (fun a ha => by cases ha; exact Nat.le_of_ble_eq_true rfl) (z_cn z_rki (z_cn z_rki (fun _ h => absurd h List.not_mem_nil)))) rfl (by decide) hwf hP hD hS hl.1 rfl (Nat.le_of_ble_eq_true rfl) ⟨Nat.le_refl _, Nat.le_refl _⟩ dL_law_723 (fun ρ1 H1 locs1 hwf1 hρ1 hP1 hD1 hS1 => ?_)
      rw [z_W_cg hwf1 hρ1] at hP1 hD1
      clear hP hD hS hwf
      have hP := hP1
      have hD := hD1
      have hS := hS1
      have hwf := hwf1
      clear hP1 hD1 hS1 hwf1 hρ1
      refine lv_aload_n hx hb dL_law_726 rfl (lv_at hl 2 rfl) ?_
      refine lv_aload_n hx hb dL_law_727 rfl (lv_at hl 0 rfl) ?_
      refine lv_iload_n hx hb dL_law_728 rfl (lv_at hl 3 rfl) ?_
      refine lv_iconst (v := 1) hx hb dL_law_729 (by decide) ?_
      refine lv_iadd hx hb dL_law_730 ?_
      refine va_sld hx hb hX hbl hbA hS (hin 1 (by decide)) dL_law_731 ?_
      refine lv_aload_n hx hb dL_law_732 rfl (lv_at hl 0 rfl) ?_
      refine lv_iload_n hx hb dL_law_733 rfl (lv_at hl 3 rfl) ?_
      refine lv_iconst (v := 2) hx hb dL_law_734 (by decide) ?_
      refine lv_iadd hx hb dL_law_735 ?_
      refine va_sld hx hb hX hbl hbA hS (hin 2 (by decide)) dL_law_736 ?_
      refine w_cVi (av := [.int (xs (nI i + 1).toNatClampNeg), .int (xs (nI i + 2).toNatClampNeg)]) (rest := [.int v]) C (t_X12_ways tm54 c2) kw_X12_ways tm54 lk_L_88 (z_cn (fun a ha => by cases ha; exact Nat.le_of_ble_eq_true rfl) (z_cn z_rki (z_cn z_rki (fun _ h => absurd h List.not_mem_nil)))) rfl (by decide) hwf hP hD hS hl.1 rfl (Nat.le_of_ble_eq_true rfl) ⟨Nat.le_refl _, Nat.le_refl _⟩ dL_law_737 (fun ρ1 H1 locs1 hwf1 hρ1 hP1 hD1 hS1 => ?_)
      rw [z_W_cg hwf1 hρ1] at hP1 hD1
      clear hP hD hS hwf
      have hP := hP1
      have hD := hD1
      have hS := hS1
      have hwf := hwf1
      clear hP1 hD1 hS1 hwf1 hρ1
      refine lv_icmp_eq (tgt := 1105) hx hb dL_law_740 (by decide) (fun _ => ?_) (fun q => absurd rfl q)
      exact hend M2 _ _ hI2 hwf hP hD hS
    | 17, _ =>
      refine lv_tableIn (tgt := 745) (off := 712) hx hb dL_law_33 (by decide) (by decide) (by decide) (by decide) ?_
      refine lv_aload_n hx hb dL_law_745 rfl (lv_at hl 1 rfl) ?_
      refine lv_aload_n hx hb dL_law_746 rfl (lv_at hl 0 rfl) ?_
      refine lv_iload_n hx hb dL_law_747 rfl (lv_at hl 3 rfl) ?_
      refine lv_iconst (v := 1) hx hb dL_law_748 (by decide) ?_
      refine lv_iadd hx hb dL_law_749 ?_
      refine va_sld hx hb hX hbl hbA hS (hin 1 (by decide)) dL_law_750 ?_
      refine lv_aload_n hx hb dL_law_751 rfl (lv_at hl 0 rfl) ?_
      refine lv_iload_n hx hb dL_law_752 rfl (lv_at hl 3 rfl) ?_
      refine lv_iconst (v := 2) hx hb dL_law_753 (by decide) ?_
      refine lv_iadd hx hb dL_law_754 ?_
      refine va_sld hx hb hX hbl hbA hS (hin 2 (by decide)) dL_law_755 ?_
      obtain ⟨v, M1, M2, c1, c2, hI2⟩ := hok.2.2.2.2.2.2.2.2.2.2.2.2.2.2.2.2.2.1 M hI ((xs (nI i + 1).toNatClampNeg)) ((xs (nI i + 2).toNatClampNeg))
      refine w_cVi (av := [.int (xs (nI i + 1).toNatClampNeg), .int (xs (nI i + 2).toNatClampNeg)]) (rest := []) C (t_X11_stockings tm0 c1) kw_X11_stockings tm0 lk_L_89 (z_cn (fun a ha => by cases ha; exact Nat.le_of_ble_eq_true rfl) (z_cn z_rki (z_cn z_rki (fun _ h => absurd h List.not_mem_nil)))) rfl (by decide) hwf hP hD hS hl.1 rfl (Nat.le_of_ble_eq_true rfl) ⟨Nat.le_refl _, Nat.le_refl _⟩ dL_law_756 (fun ρ1 H1 locs1 hwf1 hρ1 hP1 hD1 hS1 => ?_)
      rw [z_W_cg hwf1 hρ1] at hP1 hD1
      clear hP hD hS hwf
      have hP := hP1
      have hD := hD1
      have hS := hS1
      have hwf := hwf1
      clear hP1 hD1 hS1 hwf1 hρ1
      refine lv_aload_n hx hb dL_law_759 rfl (lv_at hl 2 rfl) ?_
      refine lv_aload_n hx hb dL_law_760 rfl (lv_at hl 0 rfl) ?_
      refine lv_iload_n hx hb dL_law_761 rfl (lv_at hl 3 rfl) ?_
      refine lv_iconst (v := 1) hx hb dL_law_762 (by decide) ?_
      refine lv_iadd hx hb dL_law_763 ?_
      refine va_sld hx hb hX hbl hbA hS (hin 1 (by decide)) dL_law_764 ?_
      refine lv_aload_n hx hb dL_law_765 rfl (lv_at hl 0 rfl) ?_
      refine lv_iload_n hx hb dL_law_766 rfl (lv_at hl 3 rfl) ?_
      refine lv_iconst (v := 2) hx hb dL_law_767 (by decide) ?_
      refine lv_iadd hx hb dL_law_768 ?_
      refine va_sld hx hb hX hbl hbA hS (hin 2 (by decide)) dL_law_769 ?_
      refine w_cVi (av := [.int (xs (nI i + 1).toNatClampNeg), .int (xs (nI i + 2).toNatClampNeg)]) (rest := [.int v]) C (t_X12_stockings tm54 c2) kw_X12_stockings tm54 lk_L_92 (z_cn (fun a ha => by cases ha; exact Nat.le_of_ble_eq_true rfl) (z_cn z_rki (z_cn z_rki (fun _ h => absurd h List.not_mem_nil)))) rfl (by decide) hwf hP hD hS hl.1 rfl (Nat.le_of_ble_eq_true rfl) ⟨Nat.le_refl _, Nat.le_refl _⟩ dL_law_770 (fun ρ1 H1 locs1 hwf1 hρ1 hP1 hD1 hS1 => ?_)
      rw [z_W_cg hwf1 hρ1] at hP1 hD1
      clear hP hD hS hwf
      have hP := hP1
      have hD := hD1
      have hS := hS1
      have hwf := hwf1
      clear hP1 hD1 hS1 hwf1 hρ1
      refine lv_icmp_eq (tgt := 1105) hx hb dL_law_773 (by decide) (fun _ => ?_) (fun q => absurd rfl q)
      exact hend M2 _ _ hI2 hwf hP hD hS
    | 18, _ =>
      refine lv_tableIn (tgt := 778) (off := 745) hx hb dL_law_33 (by decide) (by decide) (by decide) (by decide) ?_
      refine lv_aload_n hx hb dL_law_778 rfl (lv_at hl 1 rfl) ?_
      refine lv_aload_n hx hb dL_law_779 rfl (lv_at hl 0 rfl) ?_
      refine lv_iload_n hx hb dL_law_780 rfl (lv_at hl 3 rfl) ?_
      refine lv_iconst (v := 1) hx hb dL_law_781 (by decide) ?_
      refine lv_iadd hx hb dL_law_782 ?_
      refine va_sld hx hb hX hbl hbA hS (hin 1 (by decide)) dL_law_783 ?_
      refine lv_aload_n hx hb dL_law_784 rfl (lv_at hl 0 rfl) ?_
      refine lv_iload_n hx hb dL_law_785 rfl (lv_at hl 3 rfl) ?_
      refine lv_iconst (v := 2) hx hb dL_law_786 (by decide) ?_
      refine lv_iadd hx hb dL_law_787 ?_
      refine va_sld hx hb hX hbl hbA hS (hin 2 (by decide)) dL_law_788 ?_
      refine lv_aload_n hx hb dL_law_789 rfl (lv_at hl 0 rfl) ?_
      refine lv_iload_n hx hb dL_law_790 rfl (lv_at hl 3 rfl) ?_
      refine lv_iconst (v := 3) hx hb dL_law_791 (by decide) ?_
      refine lv_iadd hx hb dL_law_792 ?_
      refine va_sld hx hb hX hbl hbA hS (hin 3 (by decide)) dL_law_793 ?_
      obtain ⟨v, M1, M2, c1, c2, hI2⟩ := hok.2.2.2.2.2.2.2.2.2.2.2.2.2.2.2.2.2.2.1 M hI ((xs (nI i + 1).toNatClampNeg)) ((xs (nI i + 2).toNatClampNeg)) ((xs (nI i + 3).toNatClampNeg))
      refine w_cVl (av := [.int (xs (nI i + 1).toNatClampNeg), .int (xs (nI i + 2).toNatClampNeg), .int (xs (nI i + 3).toNatClampNeg)]) (rest := []) C (t_X11_sleep tm0 c1) kw_X11_sleep tm0 lk_L_93 (z_cn (fun a ha => by cases ha; exact Nat.le_of_ble_eq_true rfl) (z_cn z_rki (z_cn z_rki (z_cn z_rki (fun _ h => absurd h List.not_mem_nil))))) rfl (by decide) hwf hP hD hS hl.1 rfl (Nat.le_of_ble_eq_true rfl) ⟨Nat.le_refl _, Nat.le_refl _⟩ dL_law_794 (fun ρ1 H1 locs1 hwf1 hρ1 hP1 hD1 hS1 => ?_)
      rw [z_W_cg hwf1 hρ1] at hP1 hD1
      clear hP hD hS hwf
      have hP := hP1
      have hD := hD1
      have hS := hS1
      have hwf := hwf1
      clear hP1 hD1 hS1 hwf1 hρ1
      refine lv_aload_n hx hb dL_law_797 rfl (lv_at hl 2 rfl) ?_
      refine lv_aload_n hx hb dL_law_798 rfl (lv_at hl 0 rfl) ?_
      refine lv_iload_n hx hb dL_law_799 rfl (lv_at hl 3 rfl) ?_
      refine lv_iconst (v := 1) hx hb dL_law_800 (by decide) ?_
      refine lv_iadd hx hb dL_law_801 ?_
      refine va_sld hx hb hX hbl hbA hS (hin 1 (by decide)) dL_law_802 ?_
      refine lv_aload_n hx hb dL_law_803 rfl (lv_at hl 0 rfl) ?_
      refine lv_iload_n hx hb dL_law_804 rfl (lv_at hl 3 rfl) ?_
      refine lv_iconst (v := 2) hx hb dL_law_805 (by decide) ?_
      refine lv_iadd hx hb dL_law_806 ?_
      refine va_sld hx hb hX hbl hbA hS (hin 2 (by decide)) dL_law_807 ?_
      refine lv_aload_n hx hb dL_law_808 rfl (lv_at hl 0 rfl) ?_
      refine lv_iload_n hx hb dL_law_809 rfl (lv_at hl 3 rfl) ?_
      refine lv_iconst (v := 3) hx hb dL_law_810 (by decide) ?_
      refine lv_iadd hx hb dL_law_811 ?_
      refine va_sld hx hb hX hbl hbA hS (hin 3 (by decide)) dL_law_812 ?_
      refine w_cVl (av := [.int (xs (nI i + 1).toNatClampNeg), .int (xs (nI i + 2).toNatClampNeg), .int (xs (nI i + 3).toNatClampNeg)]) (rest := [.long v]) C (t_X12_sleep tm54 c2) kw_X12_sleep tm54 lk_L_97 (z_cn (fun a ha => by cases ha; exact Nat.le_of_ble_eq_true rfl) (z_cn z_rki (z_cn z_rki (z_cn z_rki (fun _ h => absurd h List.not_mem_nil))))) rfl (by decide) hwf hP hD hS hl.1 rfl (Nat.le_of_ble_eq_true rfl) ⟨Nat.le_refl _, Nat.le_refl _⟩ dL_law_813 (fun ρ1 H1 locs1 hwf1 hρ1 hP1 hD1 hS1 => ?_)
      rw [z_W_cg hwf1 hρ1] at hP1 hD1
      clear hP hD hS hwf
      have hP := hP1
      have hD := hD1
      have hS := hS1
      have hwf := hwf1
      clear hP1 hD1 hS1 hwf1 hρ1
      refine W.lcmp hx hb dL_law_816 ?_
      refine lv_if_eq (tgt := 1105) hx hb dL_law_817 (by decide) (fun _ => ?_) (fun q => absurd (by simp [lg_cmp]) q)
      exact hend M2 _ _ hI2 hwf hP hD hS
    | 19, _ =>
      refine lv_tableIn (tgt := 822) (off := 789) hx hb dL_law_33 (by decide) (by decide) (by decide) (by decide) ?_
      refine lv_aload_n hx hb dL_law_822 rfl (lv_at hl 1 rfl) ?_
      refine lv_aload_n hx hb dL_law_823 rfl (lv_at hl 0 rfl) ?_
      refine lv_iload_n hx hb dL_law_824 rfl (lv_at hl 3 rfl) ?_
      refine lv_iconst (v := 1) hx hb dL_law_825 (by decide) ?_
      refine lv_iadd hx hb dL_law_826 ?_
      refine va_sld hx hb hX hbl hbA hS (hin 1 (by decide)) dL_law_827 ?_
      obtain ⟨v, M1, M2, c1, c2, hI2⟩ := hok.2.2.2.2.2.2.2.2.2.2.2.2.2.2.2.2.2.2.2.1 M hI ((xs (nI i + 1).toNatClampNeg))
      refine w_cVi (av := [.int (xs (nI i + 1).toNatClampNeg)]) (rest := []) C (t_X11_breakfast tm0 c1) kw_X11_breakfast tm0 lk_L_98 (z_cn (fun a ha => by cases ha; exact Nat.le_of_ble_eq_true rfl) (z_cn z_rki (fun _ h => absurd h List.not_mem_nil))) rfl (by decide) hwf hP hD hS hl.1 rfl (Nat.le_of_ble_eq_true rfl) ⟨Nat.le_refl _, Nat.le_refl _⟩ dL_law_828 (fun ρ1 H1 locs1 hwf1 hρ1 hP1 hD1 hS1 => ?_)
      rw [z_W_cg hwf1 hρ1] at hP1 hD1
      clear hP hD hS hwf
      have hP := hP1
      have hD := hD1
      have hS := hS1
      have hwf := hwf1
      clear hP1 hD1 hS1 hwf1 hρ1
      refine lv_aload_n hx hb dL_law_831 rfl (lv_at hl 2 rfl) ?_
      refine lv_aload_n hx hb dL_law_832 rfl (lv_at hl 0 rfl) ?_
      refine lv_iload_n hx hb dL_law_833 rfl (lv_at hl 3 rfl) ?_
      refine lv_iconst (v := 1) hx hb dL_law_834 (by decide) ?_
      refine lv_iadd hx hb dL_law_835 ?_
      refine va_sld hx hb hX hbl hbA hS (hin 1 (by decide)) dL_law_836 ?_
      refine w_cVi (av := [.int (xs (nI i + 1).toNatClampNeg)]) (rest := [.int v]) C (t_X12_breakfast tm54 c2) kw_X12_breakfast tm54 lk_L_101 (z_cn (fun a ha => by cases ha; exact Nat.le_of_ble_eq_true rfl) (z_cn z_rki (fun _ h => absurd h List.not_mem_nil))) rfl (by decide) hwf hP hD hS hl.1 rfl (Nat.le_of_ble_eq_true rfl) ⟨Nat.le_refl _, Nat.le_refl _⟩ dL_law_837 (fun ρ1 H1 locs1 hwf1 hρ1 hP1 hD1 hS1 => ?_)
      rw [z_W_cg hwf1 hρ1] at hP1 hD1
      clear hP hD hS hwf
      have hP := hP1
      have hD := hD1
      have hS := hS1
      have hwf := hwf1
      clear hP1 hD1 hS1 hwf1 hρ1
      refine lv_icmp_eq (tgt := 1105) hx hb dL_law_840 (by decide) (fun _ => ?_) (fun q => absurd rfl q)
      exact hend M2 _ _ hI2 hwf hP hD hS
    | 20, _ =>
      refine lv_tableIn (tgt := 845) (off := 812) hx hb dL_law_33 (by decide) (by decide) (by decide) (by decide) ?_
      refine lv_aload_n hx hb dL_law_845 rfl (lv_at hl 1 rfl) ?_
      refine lv_aload_n hx hb dL_law_846 rfl (lv_at hl 0 rfl) ?_
      refine lv_iload_n hx hb dL_law_847 rfl (lv_at hl 3 rfl) ?_
      refine lv_iconst (v := 1) hx hb dL_law_848 (by decide) ?_
      refine lv_iadd hx hb dL_law_849 ?_
      refine va_sld hx hb hX hbl hbA hS (hin 1 (by decide)) dL_law_850 ?_
      refine lv_aload_n hx hb dL_law_851 rfl (lv_at hl 0 rfl) ?_
      refine lv_iload_n hx hb dL_law_852 rfl (lv_at hl 3 rfl) ?_
      refine lv_iconst (v := 2) hx hb dL_law_853 (by decide) ?_
      refine lv_iadd hx hb dL_law_854 ?_
      refine va_sld hx hb hX hbl hbA hS (hin 2 (by decide)) dL_law_855 ?_
      refine lv_aload_n hx hb dL_law_856 rfl (lv_at hl 0 rfl) ?_
      refine lv_iload_n hx hb dL_law_857 rfl (lv_at hl 3 rfl) ?_
      refine lv_iconst (v := 3) hx hb dL_law_858 (by decide) ?_
      refine lv_iadd hx hb dL_law_859 ?_
      refine va_sld hx hb hX hbl hbA hS (hin 3 (by decide)) dL_law_860 ?_
      obtain ⟨v, M1, M2, c1, c2, hI2⟩ := hok.2.2.2.2.2.2.2.2.2.2.2.2.2.2.2.2.2.2.2.2.1 M hI ((xs (nI i + 1).toNatClampNeg)) ((xs (nI i + 2).toNatClampNeg)) ((xs (nI i + 3).toNatClampNeg))
      refine w_cVi (av := [.int (xs (nI i + 1).toNatClampNeg), .int (xs (nI i + 2).toNatClampNeg), .int (xs (nI i + 3).toNatClampNeg)]) (rest := []) C (t_X11_ropes tm0 c1) kw_X11_ropes tm0 lk_L_102 (z_cn (fun a ha => by cases ha; exact Nat.le_of_ble_eq_true rfl) (z_cn z_rki (z_cn z_rki (z_cn z_rki (fun _ h => absurd h List.not_mem_nil))))) rfl (by decide) hwf hP hD hS hl.1 rfl (Nat.le_of_ble_eq_true rfl) ⟨Nat.le_refl _, Nat.le_refl _⟩ dL_law_861 (fun ρ1 H1 locs1 hwf1 hρ1 hP1 hD1 hS1 => ?_)
      rw [z_W_cg hwf1 hρ1] at hP1 hD1
      clear hP hD hS hwf
      have hP := hP1
      have hD := hD1
      have hS := hS1
      have hwf := hwf1
      clear hP1 hD1 hS1 hwf1 hρ1
      refine lv_aload_n hx hb dL_law_864 rfl (lv_at hl 2 rfl) ?_
      refine lv_aload_n hx hb dL_law_865 rfl (lv_at hl 0 rfl) ?_
      refine lv_iload_n hx hb dL_law_866 rfl (lv_at hl 3 rfl) ?_
      refine lv_iconst (v := 1) hx hb dL_law_867 (by decide) ?_
      refine lv_iadd hx hb dL_law_868 ?_
      refine va_sld hx hb hX hbl hbA hS (hin 1 (by decide)) dL_law_869 ?_
      refine lv_aload_n hx hb dL_law_870 rfl (lv_at hl 0 rfl) ?_
      refine lv_iload_n hx hb dL_law_871 rfl (lv_at hl 3 rfl) ?_
      refine lv_iconst (v := 2) hx hb dL_law_872 (by decide) ?_
      refine lv_iadd hx hb dL_law_873 ?_
      refine va_sld hx hb hX hbl hbA hS (hin 2 (by decide)) dL_law_874 ?_
      refine lv_aload_n hx hb dL_law_875 rfl (lv_at hl 0 rfl) ?_
      refine lv_iload_n hx hb dL_law_876 rfl (lv_at hl 3 rfl) ?_
      refine lv_iconst (v := 3) hx hb dL_law_877 (by decide) ?_
      refine lv_iadd hx hb dL_law_878 ?_
      refine va_sld hx hb hX hbl hbA hS (hin 3 (by decide)) dL_law_879 ?_
      refine w_cVi (av := [.int (xs (nI i + 1).toNatClampNeg), .int (xs (nI i + 2).toNatClampNeg), .int (xs (nI i + 3).toNatClampNeg)]) (rest := [.int v]) C (t_X12_ropes tm54 c2) kw_X12_ropes tm54 lk_L_105 (z_cn (fun a ha => by cases ha; exact Nat.le_of_ble_eq_true rfl) (z_cn z_rki (z_cn z_rki (z_cn z_rki (fun _ h => absurd h List.not_mem_nil))))) rfl (by decide) hwf hP hD hS hl.1 rfl (Nat.le_of_ble_eq_true rfl) ⟨Nat.le_refl _, Nat.le_refl _⟩ dL_law_880 (fun ρ1 H1 locs1 hwf1 hρ1 hP1 hD1 hS1 => ?_)
      rw [z_W_cg hwf1 hρ1] at hP1 hD1
      clear hP hD hS hwf
      have hP := hP1
      have hD := hD1
      have hS := hS1
      have hwf := hwf1
      clear hP1 hD1 hS1 hwf1 hρ1
      refine lv_icmp_eq (tgt := 1105) hx hb dL_law_883 (by decide) (fun _ => ?_) (fun q => absurd rfl q)
      exact hend M2 _ _ hI2 hwf hP hD hS
    | 21, _ =>
      refine lv_tableIn (tgt := 888) (off := 855) hx hb dL_law_33 (by decide) (by decide) (by decide) (by decide) ?_
      refine lv_aload_n hx hb dL_law_888 rfl (lv_at hl 1 rfl) ?_
      refine lv_aload_n hx hb dL_law_889 rfl (lv_at hl 0 rfl) ?_
      refine lv_iload_n hx hb dL_law_890 rfl (lv_at hl 3 rfl) ?_
      refine lv_iconst (v := 1) hx hb dL_law_891 (by decide) ?_
      refine lv_iadd hx hb dL_law_892 ?_
      refine va_sld hx hb hX hbl hbA hS (hin 1 (by decide)) dL_law_893 ?_
      refine lv_aload_n hx hb dL_law_894 rfl (lv_at hl 0 rfl) ?_
      refine lv_iload_n hx hb dL_law_895 rfl (lv_at hl 3 rfl) ?_
      refine lv_iconst (v := 2) hx hb dL_law_896 (by decide) ?_
      refine lv_iadd hx hb dL_law_897 ?_
      refine va_sld hx hb hX hbl hbA hS (hin 2 (by decide)) dL_law_898 ?_
      obtain ⟨v, M1, M2, c1, c2, hI2⟩ := hok.2.2.2.2.2.2.2.2.2.2.2.2.2.2.2.2.2.2.2.2.2.1 M hI ((xs (nI i + 1).toNatClampNeg)) ((xs (nI i + 2).toNatClampNeg))
      refine w_cVi (av := [.int (xs (nI i + 1).toNatClampNeg), .int (xs (nI i + 2).toNatClampNeg)]) (rest := []) C (t_X11_taps tm0 c1) kw_X11_taps tm0 lk_L_106 (z_cn (fun a ha => by cases ha; exact Nat.le_of_ble_eq_true rfl) (z_cn z_rki (z_cn z_rki (fun _ h => absurd h List.not_mem_nil)))) rfl (by decide) hwf hP hD hS hl.1 rfl (Nat.le_of_ble_eq_true rfl) ⟨Nat.le_refl _, Nat.le_refl _⟩ dL_law_899 (fun ρ1 H1 locs1 hwf1 hρ1 hP1 hD1 hS1 => ?_)
      rw [z_W_cg hwf1 hρ1] at hP1 hD1
      clear hP hD hS hwf
      have hP := hP1
      have hD := hD1
      have hS := hS1
      have hwf := hwf1
      clear hP1 hD1 hS1 hwf1 hρ1
      refine lv_aload_n hx hb dL_law_902 rfl (lv_at hl 2 rfl) ?_
      refine lv_aload_n hx hb dL_law_903 rfl (lv_at hl 0 rfl) ?_
      refine lv_iload_n hx hb dL_law_904 rfl (lv_at hl 3 rfl) ?_
      refine lv_iconst (v := 1) hx hb dL_law_905 (by decide) ?_
      refine lv_iadd hx hb dL_law_906 ?_
      refine va_sld hx hb hX hbl hbA hS (hin 1 (by decide)) dL_law_907 ?_
      refine lv_aload_n hx hb dL_law_908 rfl (lv_at hl 0 rfl) ?_
      refine lv_iload_n hx hb dL_law_909 rfl (lv_at hl 3 rfl) ?_
      refine lv_iconst (v := 2) hx hb dL_law_910 (by decide) ?_
      refine lv_iadd hx hb dL_law_911 ?_
      refine va_sld hx hb hX hbl hbA hS (hin 2 (by decide)) dL_law_912 ?_
      refine w_cVi (av := [.int (xs (nI i + 1).toNatClampNeg), .int (xs (nI i + 2).toNatClampNeg)]) (rest := [.int v]) C (t_X12_taps tm54 c2) kw_X12_taps tm54 lk_L_109 (z_cn (fun a ha => by cases ha; exact Nat.le_of_ble_eq_true rfl) (z_cn z_rki (z_cn z_rki (fun _ h => absurd h List.not_mem_nil)))) rfl (by decide) hwf hP hD hS hl.1 rfl (Nat.le_of_ble_eq_true rfl) ⟨Nat.le_refl _, Nat.le_refl _⟩ dL_law_913 (fun ρ1 H1 locs1 hwf1 hρ1 hP1 hD1 hS1 => ?_)
      rw [z_W_cg hwf1 hρ1] at hP1 hD1
      clear hP hD hS hwf
      have hP := hP1
      have hD := hD1
      have hS := hS1
      have hwf := hwf1
      clear hP1 hD1 hS1 hwf1 hρ1
      refine lv_icmp_eq (tgt := 1105) hx hb dL_law_916 (by decide) (fun _ => ?_) (fun q => absurd rfl q)
      exact hend M2 _ _ hI2 hwf hP hD hS
    | 22, _ =>
      refine lv_tableIn (tgt := 921) (off := 888) hx hb dL_law_33 (by decide) (by decide) (by decide) (by decide) ?_
      refine lv_aload_n hx hb dL_law_921 rfl (lv_at hl 1 rfl) ?_
      refine lv_aload_n hx hb dL_law_922 rfl (lv_at hl 0 rfl) ?_
      refine lv_iload_n hx hb dL_law_923 rfl (lv_at hl 3 rfl) ?_
      refine lv_iconst (v := 1) hx hb dL_law_924 (by decide) ?_
      refine lv_iadd hx hb dL_law_925 ?_
      refine va_sld hx hb hX hbl hbA hS (hin 1 (by decide)) dL_law_926 ?_
      obtain ⟨v, M1, M2, c1, c2, hI2⟩ := hok.2.2.2.2.2.2.2.2.2.2.2.2.2.2.2.2.2.2.2.2.2.2.1 M hI ((xs (nI i + 1).toNatClampNeg))
      refine w_cVi (av := [.int (xs (nI i + 1).toNatClampNeg)]) (rest := []) C (t_X11_tapped tm0 c1) kw_X11_tapped tm0 lk_L_110 (z_cn (fun a ha => by cases ha; exact Nat.le_of_ble_eq_true rfl) (z_cn z_rki (fun _ h => absurd h List.not_mem_nil))) rfl (by decide) hwf hP hD hS hl.1 rfl (Nat.le_of_ble_eq_true rfl) ⟨Nat.le_refl _, Nat.le_refl _⟩ dL_law_927 (fun ρ1 H1 locs1 hwf1 hρ1 hP1 hD1 hS1 => ?_)
      rw [z_W_cg hwf1 hρ1] at hP1 hD1
      clear hP hD hS hwf
      have hP := hP1
      have hD := hD1
      have hS := hS1
      have hwf := hwf1
      clear hP1 hD1 hS1 hwf1 hρ1
      refine lv_aload_n hx hb dL_law_930 rfl (lv_at hl 2 rfl) ?_
      refine lv_aload_n hx hb dL_law_931 rfl (lv_at hl 0 rfl) ?_
      refine lv_iload_n hx hb dL_law_932 rfl (lv_at hl 3 rfl) ?_
      refine lv_iconst (v := 1) hx hb dL_law_933 (by decide) ?_
      refine lv_iadd hx hb dL_law_934 ?_
      refine va_sld hx hb hX hbl hbA hS (hin 1 (by decide)) dL_law_935 ?_
      refine w_cVi (av := [.int (xs (nI i + 1).toNatClampNeg)]) (rest := [.int v]) C (t_X12_tapped tm54 c2) kw_X12_tapped tm54 lk_L_113 (z_cn (fun a ha => by cases ha; exact Nat.le_of_ble_eq_true rfl) (z_cn z_rki (fun _ h => absurd h List.not_mem_nil))) rfl (by decide) hwf hP hD hS hl.1 rfl (Nat.le_of_ble_eq_true rfl) ⟨Nat.le_refl _, Nat.le_refl _⟩ dL_law_936 (fun ρ1 H1 locs1 hwf1 hρ1 hP1 hD1 hS1 => ?_)
      rw [z_W_cg hwf1 hρ1] at hP1 hD1
      clear hP hD hS hwf
      have hP := hP1
      have hD := hD1
      have hS := hS1
      have hwf := hwf1
      clear hP1 hD1 hS1 hwf1 hρ1
      refine lv_icmp_eq (tgt := 1105) hx hb dL_law_939 (by decide) (fun _ => ?_) (fun q => absurd rfl q)
      exact hend M2 _ _ hI2 hwf hP hD hS
    | 23, _ =>
      refine lv_tableIn (tgt := 944) (off := 911) hx hb dL_law_33 (by decide) (by decide) (by decide) (by decide) ?_
      refine lv_aload_n hx hb dL_law_944 rfl (lv_at hl 1 rfl) ?_
      refine lv_aload_n hx hb dL_law_945 rfl (lv_at hl 0 rfl) ?_
      refine lv_iload_n hx hb dL_law_946 rfl (lv_at hl 3 rfl) ?_
      refine lv_iconst (v := 1) hx hb dL_law_947 (by decide) ?_
      refine lv_iadd hx hb dL_law_948 ?_
      refine va_sld hx hb hX hbl hbA hS (hin 1 (by decide)) dL_law_949 ?_
      refine lv_aload_n hx hb dL_law_950 rfl (lv_at hl 0 rfl) ?_
      refine lv_iload_n hx hb dL_law_951 rfl (lv_at hl 3 rfl) ?_
      refine lv_iconst (v := 2) hx hb dL_law_952 (by decide) ?_
      refine lv_iadd hx hb dL_law_953 ?_
      refine va_sld hx hb hX hbl hbA hS (hin 2 (by decide)) dL_law_954 ?_
      refine lv_aload_n hx hb dL_law_955 rfl (lv_at hl 0 rfl) ?_
      refine lv_iload_n hx hb dL_law_956 rfl (lv_at hl 3 rfl) ?_
      refine lv_iconst (v := 3) hx hb dL_law_957 (by decide) ?_
      refine lv_iadd hx hb dL_law_958 ?_
      refine va_sld hx hb hX hbl hbA hS (hin 3 (by decide)) dL_law_959 ?_
      obtain ⟨v, M1, M2, c1, c2, hI2⟩ := hok.2.2.2.2.2.2.2.2.2.2.2.2.2.2.2.2.2.2.2.2.2.2.2.1 M hI ((xs (nI i + 1).toNatClampNeg)) ((xs (nI i + 2).toNatClampNeg)) ((xs (nI i + 3).toNatClampNeg))
      refine w_cVi (av := [.int (xs (nI i + 1).toNatClampNeg), .int (xs (nI i + 2).toNatClampNeg), .int (xs (nI i + 3).toNatClampNeg)]) (rest := []) C (t_X11_linen tm0 c1) kw_X11_linen tm0 lk_L_114 (z_cn (fun a ha => by cases ha; exact Nat.le_of_ble_eq_true rfl) (z_cn z_rki (z_cn z_rki (z_cn z_rki (fun _ h => absurd h List.not_mem_nil))))) rfl (by decide) hwf hP hD hS hl.1 rfl (Nat.le_of_ble_eq_true rfl) ⟨Nat.le_refl _, Nat.le_refl _⟩ dL_law_960 (fun ρ1 H1 locs1 hwf1 hρ1 hP1 hD1 hS1 => ?_)
      rw [z_W_cg hwf1 hρ1] at hP1 hD1
      clear hP hD hS hwf
      have hP := hP1
      have hD := hD1
      have hS := hS1
      have hwf := hwf1
      clear hP1 hD1 hS1 hwf1 hρ1
      refine lv_aload_n hx hb dL_law_963 rfl (lv_at hl 2 rfl) ?_
      refine lv_aload_n hx hb dL_law_964 rfl (lv_at hl 0 rfl) ?_
      refine lv_iload_n hx hb dL_law_965 rfl (lv_at hl 3 rfl) ?_
      refine lv_iconst (v := 1) hx hb dL_law_966 (by decide) ?_
      refine lv_iadd hx hb dL_law_967 ?_
      refine va_sld hx hb hX hbl hbA hS (hin 1 (by decide)) dL_law_968 ?_
      refine lv_aload_n hx hb dL_law_969 rfl (lv_at hl 0 rfl) ?_
      refine lv_iload_n hx hb dL_law_970 rfl (lv_at hl 3 rfl) ?_
      refine lv_iconst (v := 2) hx hb dL_law_971 (by decide) ?_
      refine lv_iadd hx hb dL_law_972 ?_
      refine va_sld hx hb hX hbl hbA hS (hin 2 (by decide)) dL_law_973 ?_
      refine lv_aload_n hx hb dL_law_974 rfl (lv_at hl 0 rfl) ?_
      refine lv_iload_n hx hb dL_law_975 rfl (lv_at hl 3 rfl) ?_
      refine lv_iconst (v := 3) hx hb dL_law_976 (by decide) ?_
      refine lv_iadd hx hb dL_law_977 ?_
      refine va_sld hx hb hX hbl hbA hS (hin 3 (by decide)) dL_law_978 ?_
      refine w_cVi (av := [.int (xs (nI i + 1).toNatClampNeg), .int (xs (nI i + 2).toNatClampNeg), .int (xs (nI i + 3).toNatClampNeg)]) (rest := [.int v]) C (t_X12_linen tm54 c2) kw_X12_linen tm54 lk_L_117 (z_cn (fun a ha => by cases ha; exact Nat.le_of_ble_eq_true rfl) (z_cn z_rki (z_cn z_rki (z_cn z_rki (fun _ h => absurd h List.not_mem_nil))))) rfl (by decide) hwf hP hD hS hl.1 rfl (Nat.le_of_ble_eq_true rfl) ⟨Nat.le_refl _, Nat.le_refl _⟩ dL_law_979 (fun ρ1 H1 locs1 hwf1 hρ1 hP1 hD1 hS1 => ?_)
      rw [z_W_cg hwf1 hρ1] at hP1 hD1
      clear hP hD hS hwf
      have hP := hP1
      have hD := hD1
      have hS := hS1
      have hwf := hwf1
      clear hP1 hD1 hS1 hwf1 hρ1
      refine lv_icmp_eq (tgt := 1105) hx hb dL_law_982 (by decide) (fun _ => ?_) (fun q => absurd rfl q)
      exact hend M2 _ _ hI2 hwf hP hD hS
    | 24, _ =>
      refine lv_tableIn (tgt := 987) (off := 954) hx hb dL_law_33 (by decide) (by decide) (by decide) (by decide) ?_
      refine lv_aload_n hx hb dL_law_987 rfl (lv_at hl 1 rfl) ?_
      refine lv_aload_n hx hb dL_law_988 rfl (lv_at hl 0 rfl) ?_
      refine lv_iload_n hx hb dL_law_989 rfl (lv_at hl 3 rfl) ?_
      refine lv_iconst (v := 1) hx hb dL_law_990 (by decide) ?_
      refine lv_iadd hx hb dL_law_991 ?_
      refine va_sld hx hb hX hbl hbA hS (hin 1 (by decide)) dL_law_992 ?_
      obtain ⟨v, M1, M2, c1, c2, hI2⟩ := hok.2.2.2.2.2.2.2.2.2.2.2.2.2.2.2.2.2.2.2.2.2.2.2.2.1 M hI ((xs (nI i + 1).toNatClampNeg))
      refine w_cVi (av := [.int (xs (nI i + 1).toNatClampNeg)]) (rest := []) C (t_X11_dust tm0 c1) kw_X11_dust tm0 lk_L_118 (z_cn (fun a ha => by cases ha; exact Nat.le_of_ble_eq_true rfl) (z_cn z_rki (fun _ h => absurd h List.not_mem_nil))) rfl (by decide) hwf hP hD hS hl.1 rfl (Nat.le_of_ble_eq_true rfl) ⟨Nat.le_refl _, Nat.le_refl _⟩ dL_law_993 (fun ρ1 H1 locs1 hwf1 hρ1 hP1 hD1 hS1 => ?_)
      rw [z_W_cg hwf1 hρ1] at hP1 hD1
      clear hP hD hS hwf
      have hP := hP1
      have hD := hD1
      have hS := hS1
      have hwf := hwf1
      clear hP1 hD1 hS1 hwf1 hρ1
      refine lv_aload_n hx hb dL_law_996 rfl (lv_at hl 2 rfl) ?_
      refine lv_aload_n hx hb dL_law_997 rfl (lv_at hl 0 rfl) ?_
      refine lv_iload_n hx hb dL_law_998 rfl (lv_at hl 3 rfl) ?_
      refine lv_iconst (v := 1) hx hb dL_law_999 (by decide) ?_
      refine lv_iadd hx hb dL_law_1000 ?_
      refine va_sld hx hb hX hbl hbA hS (hin 1 (by decide)) dL_law_1001 ?_
      refine w_cVi (av := [.int (xs (nI i + 1).toNatClampNeg)]) (rest := [.int v]) C (t_X12_dust tm54 c2) kw_X12_dust tm54 lk_L_121 (z_cn (fun a ha => by cases ha; exact Nat.le_of_ble_eq_true rfl) (z_cn z_rki (fun _ h => absurd h List.not_mem_nil))) rfl (by decide) hwf hP hD hS hl.1 rfl (Nat.le_of_ble_eq_true rfl) ⟨Nat.le_refl _, Nat.le_refl _⟩ dL_law_1002 (fun ρ1 H1 locs1 hwf1 hρ1 hP1 hD1 hS1 => ?_)
      rw [z_W_cg hwf1 hρ1] at hP1 hD1
      clear hP hD hS hwf
      have hP := hP1
      have hD := hD1
      have hS := hS1
      have hwf := hwf1
      clear hP1 hD1 hS1 hwf1 hρ1
      refine lv_icmp_eq (tgt := 1105) hx hb dL_law_1005 (by decide) (fun _ => ?_) (fun q => absurd rfl q)
      exact hend M2 _ _ hI2 hwf hP hD hS
    | 25, _ =>
      refine lv_tableIn (tgt := 1010) (off := 977) hx hb dL_law_33 (by decide) (by decide) (by decide) (by decide) ?_
      refine lv_aload_n hx hb dL_law_1010 rfl (lv_at hl 1 rfl) ?_
      refine lv_aload_n hx hb dL_law_1011 rfl (lv_at hl 0 rfl) ?_
      refine lv_iload_n hx hb dL_law_1012 rfl (lv_at hl 3 rfl) ?_
      refine lv_iconst (v := 1) hx hb dL_law_1013 (by decide) ?_
      refine lv_iadd hx hb dL_law_1014 ?_
      refine va_sld hx hb hX hbl hbA hS (hin 1 (by decide)) dL_law_1015 ?_
      obtain ⟨v, M1, M2, c1, c2, hI2⟩ := hok.2.2.2.2.2.2.2.2.2.2.2.2.2.2.2.2.2.2.2.2.2.2.2.2.2.1 M hI ((xs (nI i + 1).toNatClampNeg))
      refine w_cVi (av := [.int (xs (nI i + 1).toNatClampNeg)]) (rest := []) C (t_X11_seed tm0 c1) kw_X11_seed tm0 lk_L_122 (z_cn (fun a ha => by cases ha; exact Nat.le_of_ble_eq_true rfl) (z_cn z_rki (fun _ h => absurd h List.not_mem_nil))) rfl (by decide) hwf hP hD hS hl.1 rfl (Nat.le_of_ble_eq_true rfl) ⟨Nat.le_refl _, Nat.le_refl _⟩ dL_law_1016 (fun ρ1 H1 locs1 hwf1 hρ1 hP1 hD1 hS1 => ?_)
      rw [z_W_cg hwf1 hρ1] at hP1 hD1
      clear hP hD hS hwf
      have hP := hP1
      have hD := hD1
      have hS := hS1
      have hwf := hwf1
      clear hP1 hD1 hS1 hwf1 hρ1
      refine lv_aload_n hx hb dL_law_1019 rfl (lv_at hl 2 rfl) ?_
      refine lv_aload_n hx hb dL_law_1020 rfl (lv_at hl 0 rfl) ?_
      refine lv_iload_n hx hb dL_law_1021 rfl (lv_at hl 3 rfl) ?_
      refine lv_iconst (v := 1) hx hb dL_law_1022 (by decide) ?_
      refine lv_iadd hx hb dL_law_1023 ?_
      refine va_sld hx hb hX hbl hbA hS (hin 1 (by decide)) dL_law_1024 ?_
      refine w_cVi (av := [.int (xs (nI i + 1).toNatClampNeg)]) (rest := [.int v]) C (t_X12_seed tm54 c2) kw_X12_seed tm54 lk_L_126 (z_cn (fun a ha => by cases ha; exact Nat.le_of_ble_eq_true rfl) (z_cn z_rki (fun _ h => absurd h List.not_mem_nil))) rfl (by decide) hwf hP hD hS hl.1 rfl (Nat.le_of_ble_eq_true rfl) ⟨Nat.le_refl _, Nat.le_refl _⟩ dL_law_1025 (fun ρ1 H1 locs1 hwf1 hρ1 hP1 hD1 hS1 => ?_)
      rw [z_W_cg hwf1 hρ1] at hP1 hD1
      clear hP hD hS hwf
      have hP := hP1
      have hD := hD1
      have hS := hS1
      have hwf := hwf1
      clear hP1 hD1 hS1 hwf1 hρ1
      refine lv_icmp_eq (tgt := 1105) hx hb dL_law_1028 (by decide) (fun _ => ?_) (fun q => absurd rfl q)
      exact hend M2 _ _ hI2 hwf hP hD hS
    | 26, _ =>
      refine lv_tableIn (tgt := 1033) (off := 1000) hx hb dL_law_33 (by decide) (by decide) (by decide) (by decide) ?_
      refine lv_aload_n hx hb dL_law_1033 rfl (lv_at hl 1 rfl) ?_
      obtain ⟨v, M1, M2, c1, c2, hI2⟩ := hok.2.2.2.2.2.2.2.2.2.2.2.2.2.2.2.2.2.2.2.2.2.2.2.2.2.2.1 M hI ()
      refine w_cVi (av := []) (rest := []) C (t_X11_keep tm0 c1) kw_X11_keep tm0 lk_L_127 (z_cn (fun a ha => by cases ha; exact Nat.le_of_ble_eq_true rfl) (fun _ h => absurd h List.not_mem_nil)) rfl (by decide) hwf hP hD hS hl.1 rfl (Nat.le_of_ble_eq_true rfl) ⟨Nat.le_refl _, Nat.le_refl _⟩ dL_law_1034 (fun ρ1 H1 locs1 hwf1 hρ1 hP1 hD1 hS1 => ?_)
      rw [z_W_cg hwf1 hρ1] at hP1 hD1
      clear hP hD hS hwf
      have hP := hP1
      have hD := hD1
      have hS := hS1
      have hwf := hwf1
      clear hP1 hD1 hS1 hwf1 hρ1
      refine lv_aload_n hx hb dL_law_1037 rfl (lv_at hl 2 rfl) ?_
      refine w_cVi (av := []) (rest := [.int v]) C (t_X12_keep tm54 c2) kw_X12_keep tm54 lk_L_130 (z_cn (fun a ha => by cases ha; exact Nat.le_of_ble_eq_true rfl) (fun _ h => absurd h List.not_mem_nil)) rfl (by decide) hwf hP hD hS hl.1 rfl (Nat.le_of_ble_eq_true rfl) ⟨Nat.le_refl _, Nat.le_refl _⟩ dL_law_1038 (fun ρ1 H1 locs1 hwf1 hρ1 hP1 hD1 hS1 => ?_)
      rw [z_W_cg hwf1 hρ1] at hP1 hD1
      clear hP hD hS hwf
      have hP := hP1
      have hD := hD1
      have hS := hS1
      have hwf := hwf1
      clear hP1 hD1 hS1 hwf1 hρ1
      refine lv_icmp_eq (tgt := 1105) hx hb dL_law_1041 (by decide) (fun _ => ?_) (fun q => absurd rfl q)
      exact hend M2 _ _ hI2 hwf hP hD hS
    | 27, _ =>
      refine lv_tableIn (tgt := 1046) (off := 1013) hx hb dL_law_33 (by decide) (by decide) (by decide) (by decide) ?_
      refine lv_aload_n hx hb dL_law_1046 rfl (lv_at hl 1 rfl) ?_
      obtain ⟨v, M1, M2, c1, c2, hI2⟩ := hok.2.2.2.2.2.2.2.2.2.2.2.2.2.2.2.2.2.2.2.2.2.2.2.2.2.2.2.1 M hI ()
      refine w_cVi (av := []) (rest := []) C (t_X11_undo tm0 c1) kw_X11_undo tm0 lk_L_131 (z_cn (fun a ha => by cases ha; exact Nat.le_of_ble_eq_true rfl) (fun _ h => absurd h List.not_mem_nil)) rfl (by decide) hwf hP hD hS hl.1 rfl (Nat.le_of_ble_eq_true rfl) ⟨Nat.le_refl _, Nat.le_refl _⟩ dL_law_1047 (fun ρ1 H1 locs1 hwf1 hρ1 hP1 hD1 hS1 => ?_)
      rw [z_W_cg hwf1 hρ1] at hP1 hD1
      clear hP hD hS hwf
      have hP := hP1
      have hD := hD1
      have hS := hS1
      have hwf := hwf1
      clear hP1 hD1 hS1 hwf1 hρ1
      refine lv_aload_n hx hb dL_law_1050 rfl (lv_at hl 2 rfl) ?_
      refine w_cVi (av := []) (rest := [.int v]) C (t_X12_undo tm54 c2) kw_X12_undo tm54 lk_L_135 (z_cn (fun a ha => by cases ha; exact Nat.le_of_ble_eq_true rfl) (fun _ h => absurd h List.not_mem_nil)) rfl (by decide) hwf hP hD hS hl.1 rfl (Nat.le_of_ble_eq_true rfl) ⟨Nat.le_refl _, Nat.le_refl _⟩ dL_law_1051 (fun ρ1 H1 locs1 hwf1 hρ1 hP1 hD1 hS1 => ?_)
      rw [z_W_cg hwf1 hρ1] at hP1 hD1
      clear hP hD hS hwf
      have hP := hP1
      have hD := hD1
      have hS := hS1
      have hwf := hwf1
      clear hP1 hD1 hS1 hwf1 hρ1
      refine lv_icmp_eq (tgt := 1105) hx hb dL_law_1054 (by decide) (fun _ => ?_) (fun q => absurd rfl q)
      exact hend M2 _ _ hI2 hwf hP hD hS
    | 28, _ =>
      refine lv_tableIn (tgt := 1059) (off := 1026) hx hb dL_law_33 (by decide) (by decide) (by decide) (by decide) ?_
      refine lv_aload_n hx hb dL_law_1059 rfl (lv_at hl 1 rfl) ?_
      refine lv_aload_n hx hb dL_law_1060 rfl (lv_at hl 0 rfl) ?_
      refine lv_iload_n hx hb dL_law_1061 rfl (lv_at hl 3 rfl) ?_
      refine lv_iconst (v := 1) hx hb dL_law_1062 (by decide) ?_
      refine lv_iadd hx hb dL_law_1063 ?_
      refine va_sld hx hb hX hbl hbA hS (hin 1 (by decide)) dL_law_1064 ?_
      obtain ⟨v, M1, M2, c1, c2, hI2⟩ := hok.2.2.2.2.2.2.2.2.2.2.2.2.2.2.2.2.2.2.2.2.2.2.2.2.2.2.2.2.1 M hI ((xs (nI i + 1).toNatClampNeg))
      refine w_cVi (av := [.int (xs (nI i + 1).toNatClampNeg)]) (rest := []) C (t_X11_check tm0 c1) kw_X11_check tm0 lk_L_136 (z_cn (fun a ha => by cases ha; exact Nat.le_of_ble_eq_true rfl) (z_cn z_rki (fun _ h => absurd h List.not_mem_nil))) rfl (by decide) hwf hP hD hS hl.1 rfl (Nat.le_of_ble_eq_true rfl) ⟨Nat.le_refl _, Nat.le_refl _⟩ dL_law_1065 (fun ρ1 H1 locs1 hwf1 hρ1 hP1 hD1 hS1 => ?_)
      rw [z_W_cg hwf1 hρ1] at hP1 hD1
      clear hP hD hS hwf
      have hP := hP1
      have hD := hD1
      have hS := hS1
      have hwf := hwf1
      clear hP1 hD1 hS1 hwf1 hρ1
      refine lv_aload_n hx hb dL_law_1068 rfl (lv_at hl 2 rfl) ?_
      refine lv_aload_n hx hb dL_law_1069 rfl (lv_at hl 0 rfl) ?_
      refine lv_iload_n hx hb dL_law_1070 rfl (lv_at hl 3 rfl) ?_
      refine lv_iconst (v := 1) hx hb dL_law_1071 (by decide) ?_
      refine lv_iadd hx hb dL_law_1072 ?_
      refine va_sld hx hb hX hbl hbA hS (hin 1 (by decide)) dL_law_1073 ?_
      refine w_cVi (av := [.int (xs (nI i + 1).toNatClampNeg)]) (rest := [.int v]) C (t_X12_check tm54 c2) kw_X12_check tm54 lk_L_139 (z_cn (fun a ha => by cases ha; exact Nat.le_of_ble_eq_true rfl) (z_cn z_rki (fun _ h => absurd h List.not_mem_nil))) rfl (by decide) hwf hP hD hS hl.1 rfl (Nat.le_of_ble_eq_true rfl) ⟨Nat.le_refl _, Nat.le_refl _⟩ dL_law_1074 (fun ρ1 H1 locs1 hwf1 hρ1 hP1 hD1 hS1 => ?_)
      rw [z_W_cg hwf1 hρ1] at hP1 hD1
      clear hP hD hS hwf
      have hP := hP1
      have hD := hD1
      have hS := hS1
      have hwf := hwf1
      clear hP1 hD1 hS1 hwf1 hρ1
      refine lv_icmp_eq (tgt := 1105) hx hb dL_law_1077 (by decide) (fun _ => ?_) (fun q => absurd rfl q)
      exact hend M2 _ _ hI2 hwf hP hD hS
    | 29, _ =>
      refine lv_tableIn (tgt := 1082) (off := 1049) hx hb dL_law_33 (by decide) (by decide) (by decide) (by decide) ?_
      refine lv_aload_n hx hb dL_law_1082 rfl (lv_at hl 1 rfl) ?_
      refine lv_aload_n hx hb dL_law_1083 rfl (lv_at hl 0 rfl) ?_
      refine lv_iload_n hx hb dL_law_1084 rfl (lv_at hl 3 rfl) ?_
      refine lv_iconst (v := 1) hx hb dL_law_1085 (by decide) ?_
      refine lv_iadd hx hb dL_law_1086 ?_
      refine va_sld hx hb hX hbl hbA hS (hin 1 (by decide)) dL_law_1087 ?_
      obtain ⟨v, M1, M2, c1, c2, hI2⟩ := hok.2.2.2.2.2.2.2.2.2.2.2.2.2.2.2.2.2.2.2.2.2.2.2.2.2.2.2.2.2 M hI ((xs (nI i + 1).toNatClampNeg))
      refine w_cVi (av := [.int (xs (nI i + 1).toNatClampNeg)]) (rest := []) C (t_X11_count tm0 c1) kw_X11_count tm0 lk_L_140 (z_cn (fun a ha => by cases ha; exact Nat.le_of_ble_eq_true rfl) (z_cn z_rki (fun _ h => absurd h List.not_mem_nil))) rfl (by decide) hwf hP hD hS hl.1 rfl (Nat.le_of_ble_eq_true rfl) ⟨Nat.le_refl _, Nat.le_refl _⟩ dL_law_1088 (fun ρ1 H1 locs1 hwf1 hρ1 hP1 hD1 hS1 => ?_)
      rw [z_W_cg hwf1 hρ1] at hP1 hD1
      clear hP hD hS hwf
      have hP := hP1
      have hD := hD1
      have hS := hS1
      have hwf := hwf1
      clear hP1 hD1 hS1 hwf1 hρ1
      refine lv_aload_n hx hb dL_law_1091 rfl (lv_at hl 2 rfl) ?_
      refine lv_aload_n hx hb dL_law_1092 rfl (lv_at hl 0 rfl) ?_
      refine lv_iload_n hx hb dL_law_1093 rfl (lv_at hl 3 rfl) ?_
      refine lv_iconst (v := 1) hx hb dL_law_1094 (by decide) ?_
      refine lv_iadd hx hb dL_law_1095 ?_
      refine va_sld hx hb hX hbl hbA hS (hin 1 (by decide)) dL_law_1096 ?_
      refine w_cVi (av := [.int (xs (nI i + 1).toNatClampNeg)]) (rest := [.int v]) C (t_X12_count tm54 c2) kw_X12_count tm54 lk_L_143 (z_cn (fun a ha => by cases ha; exact Nat.le_of_ble_eq_true rfl) (z_cn z_rki (fun _ h => absurd h List.not_mem_nil))) rfl (by decide) hwf hP hD hS hl.1 rfl (Nat.le_of_ble_eq_true rfl) ⟨Nat.le_refl _, Nat.le_refl _⟩ dL_law_1097 (fun ρ1 H1 locs1 hwf1 hρ1 hP1 hD1 hS1 => ?_)
      rw [z_W_cg hwf1 hρ1] at hP1 hD1
      clear hP hD hS hwf
      have hP := hP1
      have hD := hD1
      have hS := hS1
      have hwf := hwf1
      clear hP1 hD1 hS1 hwf1 hρ1
      refine lv_icmp_eq (tgt := 1105) hx hb dL_law_1100 (by decide) (fun _ => ?_) (fun q => absurd rfl q)
      exact hend M2 _ _ hI2 hwf hP hD hS
    | 30, _ =>
      refine lv_tableOut (tgt := 1105) hx hb dL_law_33 (by decide) (by decide) ?_
      exact hend M _ _ hI hwf hP hD hS
    | 31, _ =>
      refine lv_tableOut (tgt := 1105) hx hb dL_law_33 (by decide) (by decide) ?_
      exact hend M _ _ hI hwf hP hD hS
    | j + 32, hj => exact absurd hj (by omega)
