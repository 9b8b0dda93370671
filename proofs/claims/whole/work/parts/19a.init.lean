/-! the start: both objects are made, and the invariant holds -/
theorem som_e {o : Option (Unit × zM)} (h : o.isSome = true) : o = some ((), (o.getD ((), zM0)).2) := by
  cases o with
  | none => simp at h
  | some v => rfl
noncomputable def iM1 : zM := ((fc_X11_init_1 (z_al zM0 0)).getD ((), zM0)).2
noncomputable def iM2 : zM := ((fc_X12_init_55 (z_al iM1 54)).getD ((), zM0)).2
def iN (k : Nat) : Nat := if k < 48 then 0 else if k < 96 then 1 else if k = 698 then 1 else 0
set_option maxRecDepth 100000 in
theorem i_1 : (fc_X11_init_1 (z_al zM0 0)).isSome = true := by decide +kernel
set_option maxRecDepth 100000 in
theorem i_2 : (fc_X12_init_55 (z_al iM1 54)).isSome = true := by decide +kernel
set_option maxRecDepth 100000 in
theorem i_st : ∀ q ∈ zRT, iM2.2.1 q.1 q.2.1 = some q.2.2 := by decide +kernel
set_option maxRecDepth 100000 in
theorem i_mn : ∀ k, k < 699 → iM2.1 55 k = nI (iN k) := by decide +kernel
set_option maxRecDepth 100000 in
theorem i_nr : (∀ r, r < 24 → iN r ≤ 1) ∧ (∀ r, r < 24 → iN (24 + r) ≤ 9999) ∧ (∀ r, r < 24 → iN (48 + r) ≤ 1) ∧ (∀ r, r < 24 → iN (72 + r) ≤ 2) ∧ (∀ r, r < 24 → iN (96 + r) ≤ 99999) ∧ (∀ k, k < 576 → iN (120 + k) ≤ 99999) ∧ iN 696 ≤ 999999 ∧ iN 697 ≤ 99999 ∧ iN 698 ≤ 65535 ∧ (∀ r, r < 24 → iN r = 0 → iN (24 + r) = 0) := by decide +kernel
set_option maxRecDepth 100000 in
theorem i_cs1 : (∀ r, r < 24 → iM2.1 4 r = nI (iN (24 + r))) ∧ (∀ r, r < 24 → iM2.1 5 r = nI (iN (72 + r))) ∧ (∀ r, r < 24 → iM2.1 6 r = nI (iN (96 + r))) := by decide +kernel
set_option maxRecDepth 100000 in
theorem i_cs2 : (∀ k, k < 576 → iM2.1 7 k = nI (iN (120 + k))) := by decide +kernel
set_option maxRecDepth 100000 in
theorem i_cs3 : (∀ r, r < 24 → iM2.1 8 r = nI (g_sum iN (120 + 24 * r) 24)) ∧ iM2.1 3 5 = nI (g_bits iN 0 24) ∧ iM2.1 3 6 = nI (g_bits iN 48 24) ∧ iM2.1 3 7 = nI (iN 696) ∧ iM2.1 3 8 = nI (iN 697) ∧ iM2.1 3 9 = nI (iN 698) := by decide +kernel
set_option maxRecDepth 100000 in
theorem i_tp : ∀ k, k < 260 → iM2.1 2 k = nI 0 ∧ iM2.1 58 k = sb_b 0 := by decide +kernel
set_option maxRecDepth 100000 in
theorem i_ot : iM2.1 0 13 = 0 ∧ iM2.1 54 41 = 0 ∧ iM2.1 1 1 = nI 0 ∧ iM2.1 54 4 = nI 0 ∧ iM2.2.1 0 11 = some 21 ∧ iM2.2.1 0 12 = some (50 - 21) ∧ iM2.1 21 6 = nI 0 ∧ iM2.1 21 7 = nI 0 ∧ iM2.1 54 13 = nI 0 := by decide +kernel
theorem p_init : InitOK Inv := by
  obtain ⟨o1, o2, o3, o4, o5, o6, o7, o8, o9⟩ := i_ot
  refine ⟨iM1, iM2, som_e i_1, som_e i_2, iN, fun _ => 0, i_st, i_nr, i_mn, ⟨i_cs1.1, i_cs1.2.1, i_cs1.2.2, i_cs2, i_cs3⟩, Or.inl ⟨o1, o2⟩, ⟨0, by omega, o3, o4, fun k hk => ⟨0, by omega, i_tp k hk⟩⟩, 21, Or.inl rfl, o5, o6, 0, 0, by omega, by omega, o7, o8, o9, fun j hj => by omega⟩
