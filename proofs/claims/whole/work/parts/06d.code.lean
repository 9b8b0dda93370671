noncomputable def f_X11_medianFelt_86 (x0 : Nat) (k17 : Int32 → Int32 → zM → Option (Int32 × zM)) (x1 : Int32) (x2 : Int32) (M : zM) : Option (Int32 × zM) :=
  zl (x2 + 1) fun x2_1 => (k17 x1 x2_1 M)
set_option maxHeartbeats 2000000 in
set_option maxRecDepth 20000 in
theorem t_X11_medianFelt_86 {l : Launch} {x0 : Nat} {k17 : Int32 → Int32 → zM → Option (Int32 × zM)} {x1 : Int32} {x2 : Int32} {M MO : zM} {v : Int32} (h0 : z_tm SH 10 x0) (hk17 : ∀ (x1 : Int32) (x2 : Int32) (M : zM), k17 x1 x2 M = some (v, MO) → zA l yX11_medianFelt cX11_medianFelt 5 (some .int) 4 0 0 SH.length (zDi SH v MO) 0 0 17 [(0, .ref x0), (1, .int x1), (2, .int x2)] [] SH M) (hf : f_X11_medianFelt_86 x0 k17 x1 x2 M = some (v, MO)) : zA l yX11_medianFelt cX11_medianFelt 5 (some .int) 4 0 0 SH.length (zDi SH v MO) 0 0 86 [(0, .ref x0), (1, .int x1), (2, .int x2)] [] SH M := by
  unfold f_X11_medianFelt_86 at hf
  obtain ⟨x2_1, ex2_1, hf⟩ := zl_some hf
  refine z_iinc' (lv' := [(2, .int x2_1), (0, .ref x0), (1, .int x1)]) dX11_medianFelt_86 rfl (by decide) ex2_1 (by decide) rfl ?_
  refine z_goto (tgt := 17) dX11_medianFelt_89 (by decide) ?_
  refine zA.pick [(0, .ref x0), (1, .int x1), (2, .int x2_1)] [1, 2, 0] rfl ?_
  exact hk17 x1 x2_1 M hf
noncomputable def f_X11_medianFelt_17 (x0 : Nat) : Nat → Int32 → Int32 → zM → Option (Int32 × zM)
  | 0, _, _, _ => none
  | n + 1, x1, x2, M =>
    (if 24 ≤ x2 then some ((-2), M) else z_rd (M.2.1 x0 1) fun a_2 => z_call (f_X8_hasGuest a_2 x2 M) fun v_3 M_4 => (if v_3 = 0 then (f_X11_medianFelt_86 x0 (f_X11_medianFelt_17 x0 n) x1 x2 M_4) else z_rd (M_4.2.1 x0 1) fun a_7 => z_rd (M_4.2.1 a_7 4) fun a_8 => if z_ix x2 (z_ln SH a_8) = true then z_call (f_X11_guestsWhoFeelLessThan x0 (M_4.1 a_8 (x2 : Int32).toNatClampNeg) M_4) fun v_10 M_11 => z_rd (M_11.2.1 x0 1) fun a_13 => z_rd (M_11.2.1 a_13 4) fun a_14 => if z_ix x2 (z_ln SH a_14) = true then z_call (f_X11_guestsWhoFeelLessThan x0 ((M_11.1 a_14 (x2 : Int32).toNatClampNeg) + 1) M_11) fun v_16 M_17 => (if x1 < v_10 then (f_X11_medianFelt_86 x0 (f_X11_medianFelt_17 x0 n) x1 x2 M_17) else (if v_16 ≤ x1 then (f_X11_medianFelt_86 x0 (f_X11_medianFelt_17 x0 n) x1 x2 M_17) else z_rd (M_17.2.1 x0 1) fun a_21 => z_rd (M_17.2.1 a_21 4) fun a_22 => if z_ix x2 (z_ln SH a_22) = true then some ((M_17.1 a_22 (x2 : Int32).toNatClampNeg), M_17) else none)) else none else none))
set_option maxHeartbeats 2000000 in
set_option maxRecDepth 20000 in
theorem t_X11_medianFelt_17 {l : Launch} {x0 : Nat} {MO : zM} {v : Int32} (h0 : z_tm SH 10 x0) : ∀ (n : Nat) (x1 : Int32) (x2 : Int32) (M : zM), f_X11_medianFelt_17 x0 n x1 x2 M = some (v, MO) → zA l yX11_medianFelt cX11_medianFelt 5 (some .int) 4 0 0 SH.length (zDi SH v MO) 0 0 17 [(0, .ref x0), (1, .int x1), (2, .int x2)] [] SH M := by
  intro n
  induction n with
  | zero =>
    intro x1 x2 M hf
    rw [f_X11_medianFelt_17] at hf
    cases hf
  | succ n ih =>
    intro x1 x2 M hf
    rw [f_X11_medianFelt_17] at hf
    refine z_iload_n dX11_medianFelt_17 rfl rfl ?_
    refine z_bipush (v := 24) dX11_medianFelt_18 (by decide) ?_
    refine z_icmp_ge (tgt := 92) dX11_medianFelt_20 (by decide) (fun q_1 => ?_) (fun q_1 => ?_)
    · have hf := (if_pos q_1).symm.trans hf
      refine z_bipush (v := (-2)) dX11_medianFelt_92 (by decide) ?_
      obtain ⟨rfl, rfl⟩ := z_end hf
      exact z_iret ⟨rfl, rfl, rfl⟩ (Or.inl rfl) dX11_medianFelt_94
    · have hf := (if_neg q_1).symm.trans hf
      refine z_aload_n dX11_medianFelt_23 rfl rfl ?_
      obtain ⟨a_2, ra_2, hf⟩ := z_rd_some hf
      refine zgR fl_X11_19 h0 (fun _ => rfl) ra_2 dX11_medianFelt_24 (fun ha_2 => ?_)
      refine z_iload_n dX11_medianFelt_27 rfl rfl ?_
      obtain ⟨v_3, M_4, c_5, hf⟩ := z_call_some hf
      refine z_cVi (t_X8_hasGuest ha_2 c_5) kw_X8_hasGuest lk_X11_180 ha_2 rfl (by decide) rfl (Nat.le_of_ble_eq_true rfl) ⟨Nat.le_refl 0, Nat.le_refl 0⟩ dX11_medianFelt_28 ?_
      refine z_if_eq (tgt := 86) dX11_medianFelt_31 (by decide) (fun q_6 => ?_) (fun q_6 => ?_)
      · have hf := (if_pos q_6).symm.trans hf
        exact t_X11_medianFelt_86 h0 ih hf
      · have hf := (if_neg q_6).symm.trans hf
        refine z_aload_n dX11_medianFelt_34 rfl rfl ?_
        refine z_aload_n dX11_medianFelt_35 rfl rfl ?_
        obtain ⟨a_7, ra_7, hf⟩ := z_rd_some hf
        refine zgR fl_X11_19 h0 (fun _ => rfl) ra_7 dX11_medianFelt_36 (fun ha_7 => ?_)
        obtain ⟨a_8, ra_8, hf⟩ := z_rd_some hf
        refine zgR fl_X11_177 ha_7 (fun _ => rfl) ra_8 dX11_medianFelt_39 (fun ha_8 => ?_)
        refine z_iload_n dX11_medianFelt_42 rfl rfl ?_
        obtain ⟨g_9, hf⟩ := z_ifs hf
        refine z_iald ha_8 g_9 rfl dX11_medianFelt_43 ?_
        obtain ⟨v_10, M_11, c_12, hf⟩ := z_call_some hf
        refine z_cVi (t_X11_guestsWhoFeelLessThan h0 c_12) kw_X11_guestsWhoFeelLessThan lk_X11_314 h0 rfl (by decide) rfl (Nat.le_of_ble_eq_true rfl) ⟨Nat.le_refl 0, Nat.le_refl 0⟩ dX11_medianFelt_44 ?_
        refine z_istore_n' (lv' := [(3, .int v_10), (0, .ref x0), (1, .int x1), (2, .int x2)]) rfl dX11_medianFelt_47 (by decide) rfl rfl ?_
        refine z_aload_n dX11_medianFelt_48 rfl rfl ?_
        refine z_aload_n dX11_medianFelt_49 rfl rfl ?_
        obtain ⟨a_13, ra_13, hf⟩ := z_rd_some hf
        refine zgR fl_X11_19 h0 (fun _ => rfl) ra_13 dX11_medianFelt_50 (fun ha_13 => ?_)
        obtain ⟨a_14, ra_14, hf⟩ := z_rd_some hf
        refine zgR fl_X11_177 ha_13 (fun _ => rfl) ra_14 dX11_medianFelt_53 (fun ha_14 => ?_)
        refine z_iload_n dX11_medianFelt_56 rfl rfl ?_
        obtain ⟨g_15, hf⟩ := z_ifs hf
        refine z_iald ha_14 g_15 rfl dX11_medianFelt_57 ?_
        refine z_iconst (v := 1) dX11_medianFelt_58 (by decide) ?_
        refine z_iadd dX11_medianFelt_59 ?_
        obtain ⟨v_16, M_17, c_18, hf⟩ := z_call_some hf
        refine z_cVi (t_X11_guestsWhoFeelLessThan h0 c_18) kw_X11_guestsWhoFeelLessThan lk_X11_314 h0 rfl (by decide) rfl (Nat.le_of_ble_eq_true rfl) ⟨Nat.le_refl 0, Nat.le_refl 0⟩ dX11_medianFelt_60 ?_
        refine z_istore' (lv' := [(4, .int v_16), (3, .int v_10), (0, .ref x0), (1, .int x1), (2, .int x2)]) dX11_medianFelt_63 (by decide) rfl rfl ?_
        refine z_iload_n dX11_medianFelt_65 rfl rfl ?_
        refine z_iload_n dX11_medianFelt_66 rfl rfl ?_
        refine z_icmp_gt (tgt := 86) dX11_medianFelt_67 (by decide) (fun q_19 => ?_) (fun q_19 => ?_)
        · have hf := (if_pos q_19).symm.trans hf
          refine zA.pick [(0, .ref x0), (1, .int x1), (2, .int x2)] [2, 3, 4] rfl ?_
          exact t_X11_medianFelt_86 h0 ih hf
        · have hf := (if_neg q_19).symm.trans hf
          refine z_iload_n dX11_medianFelt_70 rfl rfl ?_
          refine z_iload dX11_medianFelt_71 rfl ?_
          refine z_icmp_ge (tgt := 86) dX11_medianFelt_73 (by decide) (fun q_20 => ?_) (fun q_20 => ?_)
          · have hf := (if_pos q_20).symm.trans hf
            refine zA.pick [(0, .ref x0), (1, .int x1), (2, .int x2)] [2, 3, 4] rfl ?_
            exact t_X11_medianFelt_86 h0 ih hf
          · have hf := (if_neg q_20).symm.trans hf
            refine z_aload_n dX11_medianFelt_76 rfl rfl ?_
            obtain ⟨a_21, ra_21, hf⟩ := z_rd_some hf
            refine zgR fl_X11_19 h0 (fun _ => rfl) ra_21 dX11_medianFelt_77 (fun ha_21 => ?_)
            obtain ⟨a_22, ra_22, hf⟩ := z_rd_some hf
            refine zgR fl_X11_177 ha_21 (fun _ => rfl) ra_22 dX11_medianFelt_80 (fun ha_22 => ?_)
            refine z_iload_n dX11_medianFelt_83 rfl rfl ?_
            obtain ⟨g_23, hf⟩ := z_ifs hf
            refine z_iald ha_22 g_23 rfl dX11_medianFelt_84 ?_
            obtain ⟨rfl, rfl⟩ := z_end hf
            exact z_iret ⟨rfl, rfl, rfl⟩ (Or.inl rfl) dX11_medianFelt_85
noncomputable def f_X11_medianFelt (x0 : Nat) (M : zM) : Option (Int32 × zM) :=
  z_rd (M.2.1 x0 1) fun a_1 => z_call (f_J6_bitCount_0f7a4 (M.1 a_1 5) M) fun v_2 M_3 => zl (((v_2 - 1) / 2)) fun x1_5 => (f_X11_medianFelt_17 x0 zF x1_5 0 M_3)
set_option maxHeartbeats 2000000 in
set_option maxRecDepth 20000 in
theorem t_X11_medianFelt {l : Launch} {x0 : Nat} {M MO : zM} {v : Int32} (h0 : z_tm SH 10 x0) (hf : f_X11_medianFelt x0 M = some (v, MO)) : zMet l yX11_medianFelt cX11_medianFelt 5 (some .int) 4 0 0 [.ref x0] SH M (zDi SH v MO) := by
  refine zMet.of (by decide +kernel) (Nat.le_of_ble_eq_true rfl) (Or.inr (Or.inl rfl)) ?_
  show zA l yX11_medianFelt cX11_medianFelt 5 (some .int) 4 0 0 SH.length (zDi SH v MO) 0 0 0 [(0, .ref x0)] [] SH M
  unfold f_X11_medianFelt at hf
  refine z_aload_n dX11_medianFelt_0 rfl rfl ?_
  obtain ⟨a_1, ra_1, hf⟩ := z_rd_some hf
  refine zgR fl_X11_19 h0 (fun _ => rfl) ra_1 dX11_medianFelt_1 (fun ha_1 => ?_)
  refine zgI fl_X11_289 ha_1 (fun _ => rfl) dX11_medianFelt_4 ?_
  obtain ⟨v_2, M_3, c_4, hf⟩ := z_call_some hf
  refine z_cSi (t_J6_bitCount_0f7a4  c_4) kw_J6_bitCount_0f7a4 lk_X11_221 rfl (by decide) rfl (Nat.le_of_ble_eq_true rfl) ⟨Nat.le_refl 0, Nat.le_refl 0⟩ dX11_medianFelt_7 ?_
  refine z_iconst (v := 1) dX11_medianFelt_10 (by decide) ?_
  refine z_isub dX11_medianFelt_11 ?_
  refine z_iconst (v := 2) dX11_medianFelt_12 (by decide) ?_
  refine z_idiv dX11_medianFelt_13 (by decide) ?_
  obtain ⟨x1_5, ex1_5, hf⟩ := zl_some hf
  refine z_istore_n' (lv' := [(1, .int x1_5), (0, .ref x0)]) rfl dX11_medianFelt_14 (by decide) ex1_5 rfl ?_
  refine z_iconst (v := 0) dX11_medianFelt_15 (by decide) ?_
  refine z_istore_n' (lv' := [(2, .int 0), (1, .int x1_5), (0, .ref x0)]) rfl dX11_medianFelt_16 (by decide) rfl rfl ?_
  refine zA.pick [(0, .ref x0), (1, .int x1_5), (2, .int 0)] [2, 1, 0] rfl ?_
  exact t_X11_medianFelt_17 h0 zF x1_5 0 M_3 hf
noncomputable def f_X11_dust (x0 : Nat) (x1 : Int32) (M : zM) : Option (Int32 × zM) :=
  z_call (f_X11_isWithin x1 0 1 M) fun v_1 M_2 => (if v_1 = 0 then some ((-1), M_2) else z_rd (M_2.2.1 x0 1) fun a_5 => (if (M_2.1 a_5 5) = 0 then some ((-2), M_2) else (if x1 = 0 then z_call (f_X11_guestWhoFeelsLeast x0 M_2) fun v_11 M_12 => some (v_11, M_12) else z_call (f_X11_medianFelt x0 M_2) fun v_8 M_9 => some (v_8, M_9))))
set_option maxHeartbeats 2000000 in
set_option maxRecDepth 20000 in
theorem t_X11_dust {l : Launch} {x0 : Nat} {x1 : Int32} {M MO : zM} {v : Int32} (h0 : z_tm SH 10 x0) (hf : f_X11_dust x0 x1 M = some (v, MO)) : zMet l yX11_dust cX11_dust 2 (some .int) 5 0 0 [.ref x0, .int x1] SH M (zDi SH v MO) := by
  refine zMet.of (by decide +kernel) (Nat.le_of_ble_eq_true rfl) (Or.inr (Or.inl rfl)) ?_
  show zA l yX11_dust cX11_dust 2 (some .int) 5 0 0 SH.length (zDi SH v MO) 0 0 0 [(0, .ref x0), (1, .int x1)] [] SH M
  unfold f_X11_dust at hf
  refine z_iload_n dX11_dust_0 rfl rfl ?_
  refine z_iconst (v := 0) dX11_dust_1 (by decide) ?_
  refine z_iconst (v := 1) dX11_dust_2 (by decide) ?_
  obtain ⟨v_1, M_2, c_3, hf⟩ := z_call_some hf
  refine z_cSi (t_X11_isWithin  c_3) kw_X11_isWithin lk_X11_104 rfl (by decide) rfl (Nat.le_of_ble_eq_true rfl) ⟨Nat.le_refl 0, Nat.le_refl 0⟩ dX11_dust_3 ?_
  refine z_if_ne (tgt := 11) dX11_dust_6 (by decide) (fun q_4 => ?_) (fun q_4 => ?_)
  · have hf := (if_neg q_4).symm.trans hf
    refine z_aload_n dX11_dust_11 rfl rfl ?_
    obtain ⟨a_5, ra_5, hf⟩ := z_rd_some hf
    refine zgR fl_X11_19 h0 (fun _ => rfl) ra_5 dX11_dust_12 (fun ha_5 => ?_)
    refine zgI fl_X11_289 ha_5 (fun _ => rfl) dX11_dust_15 ?_
    refine z_if_ne (tgt := 24) dX11_dust_18 (by decide) (fun q_6 => ?_) (fun q_6 => ?_)
    · have hf := (if_neg q_6).symm.trans hf
      refine z_iload_n dX11_dust_24 rfl rfl ?_
      refine z_if_ne (tgt := 35) dX11_dust_25 (by decide) (fun q_7 => ?_) (fun q_7 => ?_)
      · have hf := (if_neg q_7).symm.trans hf
        refine z_aload_n dX11_dust_35 rfl rfl ?_
        obtain ⟨v_8, M_9, c_10, hf⟩ := z_call_some hf
        refine z_cVi (t_X11_medianFelt h0 c_10) kw_X11_medianFelt lk_X11_295 h0 rfl (by decide) rfl (Nat.le_of_ble_eq_true rfl) ⟨Nat.le_refl 0, Nat.le_refl 0⟩ dX11_dust_36 ?_
        obtain ⟨rfl, rfl⟩ := z_end hf
        exact z_iret ⟨rfl, rfl, rfl⟩ (Or.inl rfl) dX11_dust_39
      · have hf := (if_pos q_7).symm.trans hf
        refine z_aload_n dX11_dust_28 rfl rfl ?_
        obtain ⟨v_11, M_12, c_13, hf⟩ := z_call_some hf
        refine z_cVi (t_X11_guestWhoFeelsLeast h0 c_13) kw_X11_guestWhoFeelsLeast lk_X11_292 h0 rfl (by decide) rfl (Nat.le_of_ble_eq_true rfl) ⟨Nat.le_refl 0, Nat.le_refl 0⟩ dX11_dust_29 ?_
        refine z_goto (tgt := 39) dX11_dust_32 (by decide) ?_
        obtain ⟨rfl, rfl⟩ := z_end hf
        exact z_iret ⟨rfl, rfl, rfl⟩ (Or.inl rfl) dX11_dust_39
    · have hf := (if_pos q_6).symm.trans hf
      refine z_bipush (v := (-2)) dX11_dust_21 (by decide) ?_
      obtain ⟨rfl, rfl⟩ := z_end hf
      exact z_iret ⟨rfl, rfl, rfl⟩ (Or.inl rfl) dX11_dust_23
  · have hf := (if_pos q_4).symm.trans hf
    refine z_iconst (v := (-1)) dX11_dust_9 (by decide) ?_
    obtain ⟨rfl, rfl⟩ := z_end hf
    exact z_iret ⟨rfl, rfl, rfl⟩ (Or.inl rfl) dX11_dust_10
noncomputable def f_X11_seed (x0 : Nat) (x1 : Int32) (M : zM) : Option (Int32 × zM) :=
  z_call (f_X11_isWithin x1 0 65535 M) fun v_1 M_2 => (if v_1 = 0 then some (0, M_2) else z_rd (M_2.2.1 x0 1) fun a_5 => zl (zu M_2.1 a_5 9 x1, M_2.2) fun M_6 => some (1, M_6))
set_option maxHeartbeats 2000000 in
set_option maxRecDepth 20000 in
theorem t_X11_seed {l : Launch} {x0 : Nat} {x1 : Int32} {M MO : zM} {v : Int32} (h0 : z_tm SH 10 x0) (hf : f_X11_seed x0 x1 M = some (v, MO)) : zMet l yX11_seed cX11_seed 2 (some .boolean) 2 0 0 [.ref x0, .int x1] SH M (zDi SH v MO) := by
  refine zMet.of (by decide +kernel) (Nat.le_of_ble_eq_true rfl) (Or.inr (Or.inr (Or.inl rfl))) ?_
  show zA l yX11_seed cX11_seed 2 (some .boolean) 2 0 0 SH.length (zDi SH v MO) 0 0 0 [(0, .ref x0), (1, .int x1)] [] SH M
  unfold f_X11_seed at hf
  refine z_iload_n dX11_seed_0 rfl rfl ?_
  refine z_iconst (v := 0) dX11_seed_1 (by decide) ?_
  refine z_ldcw (v := 65535) dX11_seed_2 cn_X11_298 ?_
  obtain ⟨v_1, M_2, c_3, hf⟩ := z_call_some hf
  refine z_cSi (t_X11_isWithin  c_3) kw_X11_isWithin lk_X11_104 rfl (by decide) rfl (Nat.le_of_ble_eq_true rfl) ⟨Nat.le_refl 0, Nat.le_refl 0⟩ dX11_seed_5 ?_
  refine z_if_ne (tgt := 13) dX11_seed_8 (by decide) (fun q_4 => ?_) (fun q_4 => ?_)
  · have hf := (if_neg q_4).symm.trans hf
    refine z_aload_n dX11_seed_13 rfl rfl ?_
    obtain ⟨a_5, ra_5, hf⟩ := z_rd_some hf
    refine zgR fl_X11_19 h0 (fun _ => rfl) ra_5 dX11_seed_14 (fun ha_5 => ?_)
    refine z_iload_n dX11_seed_17 rfl rfl ?_
    obtain ⟨M_6, eM_6, hf⟩ := zl_some hf
    refine zpI fl_X11_299 ha_5 rfl (Or.inl rfl) eM_6 dX11_seed_18 ?_
    refine z_iconst (v := 1) dX11_seed_21 (by decide) ?_
    obtain ⟨rfl, rfl⟩ := z_end hf
    exact z_iret ⟨rfl, rfl, rfl⟩ (Or.inr ⟨rfl, (Or.inr rfl)⟩) dX11_seed_22
  · have hf := (if_pos q_4).symm.trans hf
    refine z_iconst (v := 0) dX11_seed_11 (by decide) ?_
    obtain ⟨rfl, rfl⟩ := z_end hf
    exact z_iret ⟨rfl, rfl, rfl⟩ (Or.inr ⟨rfl, (Or.inl rfl)⟩) dX11_seed_12
noncomputable def f_X11_keep (x0 : Nat) (M : zM) : Option (Int32 × zM) :=
  z_rd (M.2.1 x0 2) fun a_1 => z_rd (M.2.1 x0 1) fun a_2 => z_call (f_X8_copyFrom a_1 a_2 M) fun v_3 M_4 => zl (zu M_4.1 x0 13 1, M_4.2) fun M_6 => z_rd (M_6.2.1 x0 2) fun a_7 => some ((M_6.1 a_7 8), M_6)
set_option maxHeartbeats 2000000 in
set_option maxRecDepth 20000 in
theorem t_X11_keep {l : Launch} {x0 : Nat} {M MO : zM} {v : Int32} (h0 : z_tm SH 10 x0) (hf : f_X11_keep x0 M = some (v, MO)) : zMet l yX11_keep cX11_keep 1 (some .int) 2 0 0 [.ref x0] SH M (zDi SH v MO) := by
  refine zMet.of (by decide +kernel) (Nat.le_of_ble_eq_true rfl) (Or.inr (Or.inl rfl)) ?_
  show zA l yX11_keep cX11_keep 1 (some .int) 2 0 0 SH.length (zDi SH v MO) 0 0 0 [(0, .ref x0)] [] SH M
  unfold f_X11_keep at hf
  refine z_aload_n dX11_keep_0 rfl rfl ?_
  obtain ⟨a_1, ra_1, hf⟩ := z_rd_some hf
  refine zgR fl_X11_23 h0 (fun _ => rfl) ra_1 dX11_keep_1 (fun ha_1 => ?_)
  refine z_aload_n dX11_keep_4 rfl rfl ?_
  obtain ⟨a_2, ra_2, hf⟩ := z_rd_some hf
  refine zgR fl_X11_19 h0 (fun _ => rfl) ra_2 dX11_keep_5 (fun ha_2 => ?_)
  obtain ⟨v_3, M_4, c_5, hf⟩ := z_call_some hf
  refine z_cVv (t_X8_copyFrom ha_1 ha_2 c_5) kw_X8_copyFrom lk_X11_150 ha_1 rfl (by decide) rfl (Nat.le_of_ble_eq_true rfl) ⟨Nat.le_refl 0, Nat.le_refl 0⟩ dX11_keep_8 ?_
  refine z_aload_n dX11_keep_11 rfl rfl ?_
  refine z_iconst (v := 1) dX11_keep_12 (by decide) ?_
  obtain ⟨M_6, eM_6, hf⟩ := zl_some hf
  refine zpI fl_X11_96 h0 rfl (Or.inr ⟨rfl, (Or.inr rfl)⟩) eM_6 dX11_keep_13 ?_
  refine z_aload_n dX11_keep_16 rfl rfl ?_
  obtain ⟨a_7, ra_7, hf⟩ := z_rd_some hf
  refine zgR fl_X11_23 h0 (fun _ => rfl) ra_7 dX11_keep_17 (fun ha_7 => ?_)
  refine zgI fl_X11_302 ha_7 (fun _ => rfl) dX11_keep_20 ?_
  obtain ⟨rfl, rfl⟩ := z_end hf
  exact z_iret ⟨rfl, rfl, rfl⟩ (Or.inl rfl) dX11_keep_23
noncomputable def f_X11_undo (x0 : Nat) (M : zM) : Option (Int32 × zM) :=
  (if (M.1 x0 13) = 0 then some (0, M) else z_rd (M.2.1 x0 1) fun a_2 => z_rd (M.2.1 x0 2) fun a_3 => z_call (f_X8_copyFrom a_2 a_3 M) fun v_4 M_5 => some (1, M_5))
set_option maxHeartbeats 2000000 in
set_option maxRecDepth 20000 in
theorem t_X11_undo {l : Launch} {x0 : Nat} {M MO : zM} {v : Int32} (h0 : z_tm SH 10 x0) (hf : f_X11_undo x0 M = some (v, MO)) : zMet l yX11_undo cX11_undo 1 (some .boolean) 2 0 0 [.ref x0] SH M (zDi SH v MO) := by
  refine zMet.of (by decide +kernel) (Nat.le_of_ble_eq_true rfl) (Or.inr (Or.inr (Or.inl rfl))) ?_
  show zA l yX11_undo cX11_undo 1 (some .boolean) 2 0 0 SH.length (zDi SH v MO) 0 0 0 [(0, .ref x0)] [] SH M
  unfold f_X11_undo at hf
  refine z_aload_n dX11_undo_0 rfl rfl ?_
  refine zgI fl_X11_96 h0 (fun _ => rfl) dX11_undo_1 ?_
  refine z_if_ne (tgt := 9) dX11_undo_4 (by decide) (fun q_1 => ?_) (fun q_1 => ?_)
  · have hf := (if_neg q_1).symm.trans hf
    refine z_aload_n dX11_undo_9 rfl rfl ?_
    obtain ⟨a_2, ra_2, hf⟩ := z_rd_some hf
    refine zgR fl_X11_19 h0 (fun _ => rfl) ra_2 dX11_undo_10 (fun ha_2 => ?_)
    refine z_aload_n dX11_undo_13 rfl rfl ?_
    obtain ⟨a_3, ra_3, hf⟩ := z_rd_some hf
    refine zgR fl_X11_23 h0 (fun _ => rfl) ra_3 dX11_undo_14 (fun ha_3 => ?_)
    obtain ⟨v_4, M_5, c_6, hf⟩ := z_call_some hf
    refine z_cVv (t_X8_copyFrom ha_2 ha_3 c_6) kw_X8_copyFrom lk_X11_150 ha_2 rfl (by decide) rfl (Nat.le_of_ble_eq_true rfl) ⟨Nat.le_refl 0, Nat.le_refl 0⟩ dX11_undo_17 ?_
    refine z_iconst (v := 1) dX11_undo_20 (by decide) ?_
    obtain ⟨rfl, rfl⟩ := z_end hf
    exact z_iret ⟨rfl, rfl, rfl⟩ (Or.inr ⟨rfl, (Or.inr rfl)⟩) dX11_undo_21
  · have hf := (if_pos q_1).symm.trans hf
    refine z_iconst (v := 0) dX11_undo_7 (by decide) ?_
    obtain ⟨rfl, rfl⟩ := z_end hf
    exact z_iret ⟨rfl, rfl, rfl⟩ (Or.inr ⟨rfl, (Or.inl rfl)⟩) dX11_undo_8
noncomputable def f_X11_check_34 (x0 : Nat) (x1 : Int32) : Nat → Int32 → zM → Option (Int32 × zM)
  | 0, _, _ => none
  | n + 1, x2, M =>
    (if x1 ≤ x2 then some ((-1), M) else z_rd (M.2.1 x0 0) fun a_2 => z_call (f_X10_byteAt a_2 x2 M) fun v_3 M_4 => z_rd (M_4.2.1 x0 1) fun a_6 => z_rd (M_4.2.1 a_6 0) fun a_7 => if z_ix x2 (z_ln SH a_7) = true then (if v_3 = ((M_4.1 a_7 (x2 : Int32).toNatClampNeg) - (M_4.1 a_7 (x2 : Int32).toNatClampNeg) / 256 * 256) then zl (x2 + 1) fun x2_10 => (f_X11_check_34 x0 x1 n x2_10 M_4) else some (x2, M_4)) else none)
set_option maxHeartbeats 2000000 in
set_option maxRecDepth 20000 in
theorem t_X11_check_34 {l : Launch} {x0 : Nat} {x1 : Int32} {MO : zM} {v : Int32} (h0 : z_tm SH 10 x0) : ∀ (n : Nat) (x2 : Int32) (M : zM), f_X11_check_34 x0 x1 n x2 M = some (v, MO) → zA l yX11_check cX11_check 3 (some .int) 2 0 0 SH.length (zDi SH v MO) 0 0 34 [(0, .ref x0), (1, .int x1), (2, .int x2)] [] SH M := by
  intro n
  induction n with
  | zero =>
    intro x2 M hf
    rw [f_X11_check_34] at hf
    cases hf
  | succ n ih =>
    intro x2 M hf
    rw [f_X11_check_34] at hf
    refine z_iload_n dX11_check_34 rfl rfl ?_
    refine z_iload_n dX11_check_35 rfl rfl ?_
    refine z_icmp_ge (tgt := 71) dX11_check_36 (by decide) (fun q_1 => ?_) (fun q_1 => ?_)
    · have hf := (if_pos q_1).symm.trans hf
      refine z_iconst (v := (-1)) dX11_check_71 (by decide) ?_
      obtain ⟨rfl, rfl⟩ := z_end hf
      exact z_iret ⟨rfl, rfl, rfl⟩ (Or.inl rfl) dX11_check_72
    · have hf := (if_neg q_1).symm.trans hf
      refine z_aload_n dX11_check_39 rfl rfl ?_
      obtain ⟨a_2, ra_2, hf⟩ := z_rd_some hf
      refine zgR fl_X11_12 h0 (fun _ => rfl) ra_2 dX11_check_40 (fun ha_2 => ?_)
      refine z_iload_n dX11_check_43 rfl rfl ?_
      obtain ⟨v_3, M_4, c_5, hf⟩ := z_call_some hf
      refine z_cVi (t_X10_byteAt ha_2 c_5) kw_X10_byteAt lk_X11_305 ha_2 rfl (by decide) rfl (Nat.le_of_ble_eq_true rfl) ⟨Nat.le_refl 0, Nat.le_refl 0⟩ dX11_check_44 ?_
      refine z_aload_n dX11_check_47 rfl rfl ?_
      obtain ⟨a_6, ra_6, hf⟩ := z_rd_some hf
      refine zgR fl_X11_19 h0 (fun _ => rfl) ra_6 dX11_check_48 (fun ha_6 => ?_)
      obtain ⟨a_7, ra_7, hf⟩ := z_rd_some hf
      refine zgR fl_X11_169 ha_6 (fun _ => rfl) ra_7 dX11_check_51 (fun ha_7 => ?_)
      refine z_iload_n dX11_check_54 rfl rfl ?_
      obtain ⟨g_8, hf⟩ := z_ifs hf
      refine z_iald ha_7 g_8 rfl dX11_check_55 ?_
      refine z_sipush (v := 256) dX11_check_56 (by decide) ?_
      refine z_irem dX11_check_59 (by decide) ?_
      refine z_icmp_eq (tgt := 65) dX11_check_60 (by decide) (fun q_9 => ?_) (fun q_9 => ?_)
      · have hf := (if_pos q_9).symm.trans hf
        obtain ⟨x2_10, ex2_10, hf⟩ := zl_some hf
        refine z_iinc' (lv' := [(2, .int x2_10), (0, .ref x0), (1, .int x1)]) dX11_check_65 rfl (by decide) ex2_10 (by decide) rfl ?_
        refine z_goto (tgt := 34) dX11_check_68 (by decide) ?_
        refine zA.pick [(0, .ref x0), (1, .int x1), (2, .int x2_10)] [1, 2, 0] rfl ?_
        exact ih x2_10 M_4 hf
      · have hf := (if_neg q_9).symm.trans hf
        refine z_iload_n dX11_check_63 rfl rfl ?_
        obtain ⟨rfl, rfl⟩ := z_end hf
        exact z_iret ⟨rfl, rfl, rfl⟩ (Or.inl rfl) dX11_check_64
noncomputable def f_X11_check (x0 : Nat) (x1 : Int32) (M : zM) : Option (Int32 × zM) :=
  z_call (f_X11_isWithin x1 0 24 M) fun v_1 M_2 => (if v_1 = 0 then some ((-2), M_2) else z_rd (M_2.2.1 x0 0) fun a_5 => z_call (f_X10_has a_5 x1 M_2) fun v_6 M_7 => (if v_6 = 0 then some ((-2), M_7) else z_rd (M_7.2.1 x0 0) fun a_10 => z_call (f_X10_take a_10 x1 M_7) fun v_11 M_12 => (f_X11_check_34 x0 x1 zF 0 M_12)))
set_option maxHeartbeats 2000000 in
set_option maxRecDepth 20000 in
theorem t_X11_check {l : Launch} {x0 : Nat} {x1 : Int32} {M MO : zM} {v : Int32} (h0 : z_tm SH 10 x0) (hf : f_X11_check x0 x1 M = some (v, MO)) : zMet l yX11_check cX11_check 3 (some .int) 2 0 0 [.ref x0, .int x1] SH M (zDi SH v MO) := by
  refine zMet.of (by decide +kernel) (Nat.le_of_ble_eq_true rfl) (Or.inr (Or.inl rfl)) ?_
  show zA l yX11_check cX11_check 3 (some .int) 2 0 0 SH.length (zDi SH v MO) 0 0 0 [(0, .ref x0), (1, .int x1)] [] SH M
  unfold f_X11_check at hf
  refine z_iload_n dX11_check_0 rfl rfl ?_
  refine z_iconst (v := 0) dX11_check_1 (by decide) ?_
  refine z_bipush (v := 24) dX11_check_2 (by decide) ?_
  obtain ⟨v_1, M_2, c_3, hf⟩ := z_call_some hf
  refine z_cSi (t_X11_isWithin  c_3) kw_X11_isWithin lk_X11_104 rfl (by decide) rfl (Nat.le_of_ble_eq_true rfl) ⟨Nat.le_refl 0, Nat.le_refl 0⟩ dX11_check_4 ?_
  refine z_if_eq (tgt := 21) dX11_check_7 (by decide) (fun q_4 => ?_) (fun q_4 => ?_)
  · have hf := (if_pos q_4).symm.trans hf
    refine z_bipush (v := (-2)) dX11_check_21 (by decide) ?_
    obtain ⟨rfl, rfl⟩ := z_end hf
    exact z_iret ⟨rfl, rfl, rfl⟩ (Or.inl rfl) dX11_check_23
  · have hf := (if_neg q_4).symm.trans hf
    refine z_aload_n dX11_check_10 rfl rfl ?_
    obtain ⟨a_5, ra_5, hf⟩ := z_rd_some hf
    refine zgR fl_X11_12 h0 (fun _ => rfl) ra_5 dX11_check_11 (fun ha_5 => ?_)
    refine z_iload_n dX11_check_14 rfl rfl ?_
    obtain ⟨v_6, M_7, c_8, hf⟩ := z_call_some hf
    refine z_cVi (t_X10_has ha_5 c_8) kw_X10_has lk_X11_131 ha_5 rfl (by decide) rfl (Nat.le_of_ble_eq_true rfl) ⟨Nat.le_refl 0, Nat.le_refl 0⟩ dX11_check_15 ?_
    refine z_if_ne (tgt := 24) dX11_check_18 (by decide) (fun q_9 => ?_) (fun q_9 => ?_)
    · have hf := (if_neg q_9).symm.trans hf
      refine z_aload_n dX11_check_24 rfl rfl ?_
      obtain ⟨a_10, ra_10, hf⟩ := z_rd_some hf
      refine zgR fl_X11_12 h0 (fun _ => rfl) ra_10 dX11_check_25 (fun ha_10 => ?_)
      refine z_iload_n dX11_check_28 rfl rfl ?_
      obtain ⟨v_11, M_12, c_13, hf⟩ := z_call_some hf
      refine z_cVv (t_X10_take ha_10 c_13) kw_X10_take lk_X11_134 ha_10 rfl (by decide) rfl (Nat.le_of_ble_eq_true rfl) ⟨Nat.le_refl 0, Nat.le_refl 0⟩ dX11_check_29 ?_
      refine z_iconst (v := 0) dX11_check_32 (by decide) ?_
      refine z_istore_n' (lv' := [(2, .int 0), (0, .ref x0), (1, .int x1)]) rfl dX11_check_33 (by decide) rfl rfl ?_
      refine zA.pick [(0, .ref x0), (1, .int x1), (2, .int 0)] [1, 2, 0] rfl ?_
      exact t_X11_check_34 h0 zF 0 M_12 hf
    · have hf := (if_pos q_9).symm.trans hf
      refine z_bipush (v := (-2)) dX11_check_21 (by decide) ?_
      obtain ⟨rfl, rfl⟩ := z_end hf
      exact z_iret ⟨rfl, rfl, rfl⟩ (Or.inl rfl) dX11_check_23
noncomputable def f_X11_count (x0 : Nat) (x1 : Int32) (M : zM) : Option (Int32 × zM) :=
  (if x1 = 0 then z_rd (M.2.1 x0 1) fun a_2 => some ((M.1 a_2 8), M) else if x1 = 1 then z_rd (M.2.1 x0 1) fun a_4 => some ((M.1 a_4 7), M) else if x1 = 2 then z_rd (M.2.1 x0 1) fun a_6 => some ((M.1 a_6 5), M) else if x1 = 3 then z_rd (M.2.1 x0 1) fun a_8 => some ((M.1 a_8 6), M) else if x1 = 4 then z_rd (M.2.1 x0 11) fun a_10 => some ((M.1 a_10 7), M) else if x1 = 5 then z_rd (M.2.1 x0 0) fun a_12 => some ((M.1 a_12 1), M) else if x1 = 6 then z_rd (M.2.1 x0 1) fun a_14 => some ((M.1 a_14 9), M) else if x1 = 7 then z_rd (M.2.1 x0 1) fun a_16 => z_rd (M.2.1 a_16 0) fun a_17 => z_call (f_X11_sumOf a_17 M) fun v_18 M_19 => some (v_18, M_19) else if x1 = 8 then z_rd (M.2.1 x0 1) fun a_22 => z_rd (M.2.1 a_22 2) fun a_23 => z_call (f_X11_sumOf a_23 M) fun v_24 M_25 => some (v_24, M_25) else some ((-1), M))
set_option maxHeartbeats 2000000 in
set_option maxRecDepth 20000 in
theorem t_X11_count {l : Launch} {x0 : Nat} {x1 : Int32} {M MO : zM} {v : Int32} (h0 : z_tm SH 10 x0) (hf : f_X11_count x0 x1 M = some (v, MO)) : zMet l yX11_count cX11_count 2 (some .int) 2 0 0 [.ref x0, .int x1] SH M (zDi SH v MO) := by
  refine zMet.of (by decide +kernel) (Nat.le_of_ble_eq_true rfl) (Or.inr (Or.inl rfl)) ?_
  show zA l yX11_count cX11_count 2 (some .int) 2 0 0 SH.length (zDi SH v MO) 0 0 0 [(0, .ref x0), (1, .int x1)] [] SH M
  unfold f_X11_count at hf
  refine z_iload_n dX11_count_0 rfl rfl ?_
  by_cases q_1 : x1 = 0
  · have hf := (if_pos q_1).symm.trans hf
    refine z_tabIn (tgt := 52) (off := 51) dX11_count_1 (by rw [q_1]; decide) (by rw [q_1]; decide) (by rw [q_1]; rfl) (by decide) ?_
    refine z_aload_n dX11_count_52 rfl rfl ?_
    obtain ⟨a_2, ra_2, hf⟩ := z_rd_some hf
    refine zgR fl_X11_19 h0 (fun _ => rfl) ra_2 dX11_count_53 (fun ha_2 => ?_)
    refine zgI fl_X11_302 ha_2 (fun _ => rfl) dX11_count_56 ?_
    obtain ⟨rfl, rfl⟩ := z_end hf
    exact z_iret ⟨rfl, rfl, rfl⟩ (Or.inl rfl) dX11_count_59
  have hf := (if_neg q_1).symm.trans hf
  by_cases q_3 : x1 = 1
  · have hf := (if_pos q_3).symm.trans hf
    refine z_tabIn (tgt := 60) (off := 59) dX11_count_1 (by rw [q_3]; decide) (by rw [q_3]; decide) (by rw [q_3]; rfl) (by decide) ?_
    refine z_aload_n dX11_count_60 rfl rfl ?_
    obtain ⟨a_4, ra_4, hf⟩ := z_rd_some hf
    refine zgR fl_X11_19 h0 (fun _ => rfl) ra_4 dX11_count_61 (fun ha_4 => ?_)
    refine zgI fl_X11_308 ha_4 (fun _ => rfl) dX11_count_64 ?_
    obtain ⟨rfl, rfl⟩ := z_end hf
    exact z_iret ⟨rfl, rfl, rfl⟩ (Or.inl rfl) dX11_count_67
  have hf := (if_neg q_3).symm.trans hf
  by_cases q_5 : x1 = 2
  · have hf := (if_pos q_5).symm.trans hf
    refine z_tabIn (tgt := 68) (off := 67) dX11_count_1 (by rw [q_5]; decide) (by rw [q_5]; decide) (by rw [q_5]; rfl) (by decide) ?_
    refine z_aload_n dX11_count_68 rfl rfl ?_
    obtain ⟨a_6, ra_6, hf⟩ := z_rd_some hf
    refine zgR fl_X11_19 h0 (fun _ => rfl) ra_6 dX11_count_69 (fun ha_6 => ?_)
    refine zgI fl_X11_289 ha_6 (fun _ => rfl) dX11_count_72 ?_
    obtain ⟨rfl, rfl⟩ := z_end hf
    exact z_iret ⟨rfl, rfl, rfl⟩ (Or.inl rfl) dX11_count_75
  have hf := (if_neg q_5).symm.trans hf
  by_cases q_7 : x1 = 3
  · have hf := (if_pos q_7).symm.trans hf
    refine z_tabIn (tgt := 76) (off := 75) dX11_count_1 (by rw [q_7]; decide) (by rw [q_7]; decide) (by rw [q_7]; rfl) (by decide) ?_
    refine z_aload_n dX11_count_76 rfl rfl ?_
    obtain ⟨a_8, ra_8, hf⟩ := z_rd_some hf
    refine zgR fl_X11_19 h0 (fun _ => rfl) ra_8 dX11_count_77 (fun ha_8 => ?_)
    refine zgI fl_X11_311 ha_8 (fun _ => rfl) dX11_count_80 ?_
    obtain ⟨rfl, rfl⟩ := z_end hf
    exact z_iret ⟨rfl, rfl, rfl⟩ (Or.inl rfl) dX11_count_83
  have hf := (if_neg q_7).symm.trans hf
  by_cases q_9 : x1 = 4
  · have hf := (if_pos q_9).symm.trans hf
    refine z_tabIn (tgt := 84) (off := 83) dX11_count_1 (by rw [q_9]; decide) (by rw [q_9]; decide) (by rw [q_9]; rfl) (by decide) ?_
    refine z_aload_n dX11_count_84 rfl rfl ?_
    obtain ⟨a_10, ra_10, hf⟩ := z_rd_some hf
    refine zgR fl_X11_34 h0 (fun _ => rfl) ra_10 dX11_count_85 (fun ha_10 => ?_)
    refine zgI fl_X11_147 ha_10 (fun _ => rfl) dX11_count_88 ?_
    obtain ⟨rfl, rfl⟩ := z_end hf
    exact z_iret ⟨rfl, rfl, rfl⟩ (Or.inl rfl) dX11_count_91
  have hf := (if_neg q_9).symm.trans hf
  by_cases q_11 : x1 = 5
  · have hf := (if_pos q_11).symm.trans hf
    refine z_tabIn (tgt := 92) (off := 91) dX11_count_1 (by rw [q_11]; decide) (by rw [q_11]; decide) (by rw [q_11]; rfl) (by decide) ?_
    refine z_aload_n dX11_count_92 rfl rfl ?_
    obtain ⟨a_12, ra_12, hf⟩ := z_rd_some hf
    refine zgR fl_X11_12 h0 (fun _ => rfl) ra_12 dX11_count_93 (fun ha_12 => ?_)
    refine zgI fl_X11_127 ha_12 (fun _ => rfl) dX11_count_96 ?_
    obtain ⟨rfl, rfl⟩ := z_end hf
    exact z_iret ⟨rfl, rfl, rfl⟩ (Or.inl rfl) dX11_count_99
  have hf := (if_neg q_11).symm.trans hf
  by_cases q_13 : x1 = 6
  · have hf := (if_pos q_13).symm.trans hf
    refine z_tabIn (tgt := 100) (off := 99) dX11_count_1 (by rw [q_13]; decide) (by rw [q_13]; decide) (by rw [q_13]; rfl) (by decide) ?_
    refine z_aload_n dX11_count_100 rfl rfl ?_
    obtain ⟨a_14, ra_14, hf⟩ := z_rd_some hf
    refine zgR fl_X11_19 h0 (fun _ => rfl) ra_14 dX11_count_101 (fun ha_14 => ?_)
    refine zgI fl_X11_299 ha_14 (fun _ => rfl) dX11_count_104 ?_
    obtain ⟨rfl, rfl⟩ := z_end hf
    exact z_iret ⟨rfl, rfl, rfl⟩ (Or.inl rfl) dX11_count_107
  have hf := (if_neg q_13).symm.trans hf
  by_cases q_15 : x1 = 7
  · have hf := (if_pos q_15).symm.trans hf
    refine z_tabIn (tgt := 108) (off := 107) dX11_count_1 (by rw [q_15]; decide) (by rw [q_15]; decide) (by rw [q_15]; rfl) (by decide) ?_
    refine z_aload_n dX11_count_108 rfl rfl ?_
    obtain ⟨a_16, ra_16, hf⟩ := z_rd_some hf
    refine zgR fl_X11_19 h0 (fun _ => rfl) ra_16 dX11_count_109 (fun ha_16 => ?_)
    obtain ⟨a_17, ra_17, hf⟩ := z_rd_some hf
    refine zgR fl_X11_169 ha_16 (fun _ => rfl) ra_17 dX11_count_112 (fun ha_17 => ?_)
    obtain ⟨v_18, M_19, c_20, hf⟩ := z_call_some hf
    refine z_cSi (t_X11_sumOf ha_17 c_20) kw_X11_sumOf lk_X11_173 rfl (by decide) rfl (Nat.le_of_ble_eq_true rfl) ⟨Nat.le_refl 0, Nat.le_refl 0⟩ dX11_count_115 ?_
    obtain ⟨rfl, rfl⟩ := z_end hf
    exact z_iret ⟨rfl, rfl, rfl⟩ (Or.inl rfl) dX11_count_118
  have hf := (if_neg q_15).symm.trans hf
  by_cases q_21 : x1 = 8
  · have hf := (if_pos q_21).symm.trans hf
    refine z_tabIn (tgt := 119) (off := 118) dX11_count_1 (by rw [q_21]; decide) (by rw [q_21]; decide) (by rw [q_21]; rfl) (by decide) ?_
    refine z_aload_n dX11_count_119 rfl rfl ?_
    obtain ⟨a_22, ra_22, hf⟩ := z_rd_some hf
    refine zgR fl_X11_19 h0 (fun _ => rfl) ra_22 dX11_count_120 (fun ha_22 => ?_)
    obtain ⟨a_23, ra_23, hf⟩ := z_rd_some hf
    refine zgR fl_X11_189 ha_22 (fun _ => rfl) ra_23 dX11_count_123 (fun ha_23 => ?_)
    obtain ⟨v_24, M_25, c_26, hf⟩ := z_call_some hf
    refine z_cSi (t_X11_sumOf ha_23 c_26) kw_X11_sumOf lk_X11_173 rfl (by decide) rfl (Nat.le_of_ble_eq_true rfl) ⟨Nat.le_refl 0, Nat.le_refl 0⟩ dX11_count_126 ?_
    obtain ⟨rfl, rfl⟩ := z_end hf
    exact z_iret ⟨rfl, rfl, rfl⟩ (Or.inl rfl) dX11_count_129
  have hf := (if_neg q_21).symm.trans hf
  refine z_tabD (tgt := 130) dX11_count_1 [0, 1, 2, 3, 4, 5, 6, 7, 8] (List.forall_mem_cons.mpr ⟨lv_neT q_1 (by decide), (List.forall_mem_cons.mpr ⟨lv_neT q_3 (by decide), (List.forall_mem_cons.mpr ⟨lv_neT q_5 (by decide), (List.forall_mem_cons.mpr ⟨lv_neT q_7 (by decide), (List.forall_mem_cons.mpr ⟨lv_neT q_9 (by decide), (List.forall_mem_cons.mpr ⟨lv_neT q_11 (by decide), (List.forall_mem_cons.mpr ⟨lv_neT q_13 (by decide), (List.forall_mem_cons.mpr ⟨lv_neT q_15 (by decide), (List.forall_mem_cons.mpr ⟨lv_neT q_21 (by decide), (fun _ h => absurd h List.not_mem_nil)⟩)⟩)⟩)⟩)⟩)⟩)⟩)⟩)⟩) (by decide) (by decide) ?_
  refine z_iconst (v := (-1)) dX11_count_130 (by decide) ?_
  obtain ⟨rfl, rfl⟩ := z_end hf
  exact z_iret ⟨rfl, rfl, rfl⟩ (Or.inl rfl) dX11_count_131
noncomputable def f_X12_in (x0 : Int32) (x1 : Int32) (x2 : Int32) (M : zM) : Option (Int32 × zM) :=
  (if x0 < x1 then some (0, M) else (if x2 < x0 then some (0, M) else some (1, M)))
set_option maxHeartbeats 2000000 in
set_option maxRecDepth 20000 in
theorem t_X12_in {l : Launch} {x0 : Int32} {x1 : Int32} {x2 : Int32} {M MO : zM} {v : Int32} (hf : f_X12_in x0 x1 x2 M = some (v, MO)) : zMet l yX12_in cX12_in 3 (some .boolean) 1 0 0 [.int x0, .int x1, .int x2] SH M (zDi SH v MO) := by
  refine zMet.of (by decide +kernel) (Nat.le_of_ble_eq_true rfl) (Or.inr (Or.inr (Or.inl rfl))) ?_
  show zA l yX12_in cX12_in 3 (some .boolean) 1 0 0 SH.length (zDi SH v MO) 0 0 0 [(0, .int x0), (1, .int x1), (2, .int x2)] [] SH M
  unfold f_X12_in at hf
  refine z_iload_n dX12_in_0 rfl rfl ?_
  refine z_iload_n dX12_in_1 rfl rfl ?_
  refine z_icmp_lt (tgt := 14) dX12_in_2 (by decide) (fun q_1 => ?_) (fun q_1 => ?_)
  · have hf := (if_pos q_1).symm.trans hf
    refine z_iconst (v := 0) dX12_in_14 (by decide) ?_
    obtain ⟨rfl, rfl⟩ := z_end hf
    exact z_iret ⟨rfl, rfl, rfl⟩ (Or.inr ⟨rfl, (Or.inl rfl)⟩) dX12_in_15
  · have hf := (if_neg q_1).symm.trans hf
    refine z_iload_n dX12_in_5 rfl rfl ?_
    refine z_iload_n dX12_in_6 rfl rfl ?_
    refine z_icmp_gt (tgt := 14) dX12_in_7 (by decide) (fun q_2 => ?_) (fun q_2 => ?_)
    · have hf := (if_pos q_2).symm.trans hf
      refine z_iconst (v := 0) dX12_in_14 (by decide) ?_
      obtain ⟨rfl, rfl⟩ := z_end hf
      exact z_iret ⟨rfl, rfl, rfl⟩ (Or.inr ⟨rfl, (Or.inl rfl)⟩) dX12_in_15
    · have hf := (if_neg q_2).symm.trans hf
      refine z_iconst (v := 1) dX12_in_10 (by decide) ?_
      refine z_goto (tgt := 15) dX12_in_11 (by decide) ?_
      obtain ⟨rfl, rfl⟩ := z_end hf
      exact z_iret ⟨rfl, rfl, rfl⟩ (Or.inr ⟨rfl, (Or.inr rfl)⟩) dX12_in_15
noncomputable def f_X12_min (x0 : Int32) (x1 : Int32) (M : zM) : Option (Int32 × zM) :=
  (if x1 ≤ x0 then some (x1, M) else some (x0, M))
set_option maxHeartbeats 2000000 in
set_option maxRecDepth 20000 in
theorem t_X12_min {l : Launch} {x0 : Int32} {x1 : Int32} {M MO : zM} {v : Int32} (hf : f_X12_min x0 x1 M = some (v, MO)) : zMet l yX12_min cX12_min 2 (some .int) 1 0 0 [.int x0, .int x1] SH M (zDi SH v MO) := by
  refine zMet.of (by decide +kernel) (Nat.le_of_ble_eq_true rfl) (Or.inr (Or.inl rfl)) ?_
  show zA l yX12_min cX12_min 2 (some .int) 1 0 0 SH.length (zDi SH v MO) 0 0 0 [(0, .int x0), (1, .int x1)] [] SH M
  unfold f_X12_min at hf
  refine z_iload_n dX12_min_0 rfl rfl ?_
  refine z_iload_n dX12_min_1 rfl rfl ?_
  refine z_icmp_ge (tgt := 9) dX12_min_2 (by decide) (fun q_1 => ?_) (fun q_1 => ?_)
  · have hf := (if_pos q_1).symm.trans hf
    refine z_iload_n dX12_min_9 rfl rfl ?_
    obtain ⟨rfl, rfl⟩ := z_end hf
    exact z_iret ⟨rfl, rfl, rfl⟩ (Or.inl rfl) dX12_min_10
  · have hf := (if_neg q_1).symm.trans hf
    refine z_iload_n dX12_min_5 rfl rfl ?_
    refine z_goto (tgt := 10) dX12_min_6 (by decide) ?_
    obtain ⟨rfl, rfl⟩ := z_end hf
    exact z_iret ⟨rfl, rfl, rfl⟩ (Or.inl rfl) dX12_min_10
noncomputable def f_X12_max (x0 : Int32) (x1 : Int32) (M : zM) : Option (Int32 × zM) :=
  (if x0 ≤ x1 then some (x1, M) else some (x0, M))
set_option maxHeartbeats 2000000 in
set_option maxRecDepth 20000 in
theorem t_X12_max {l : Launch} {x0 : Int32} {x1 : Int32} {M MO : zM} {v : Int32} (hf : f_X12_max x0 x1 M = some (v, MO)) : zMet l yX12_max cX12_max 2 (some .int) 1 0 0 [.int x0, .int x1] SH M (zDi SH v MO) := by
  refine zMet.of (by decide +kernel) (Nat.le_of_ble_eq_true rfl) (Or.inr (Or.inl rfl)) ?_
  show zA l yX12_max cX12_max 2 (some .int) 1 0 0 SH.length (zDi SH v MO) 0 0 0 [(0, .int x0), (1, .int x1)] [] SH M
  unfold f_X12_max at hf
  refine z_iload_n dX12_max_0 rfl rfl ?_
  refine z_iload_n dX12_max_1 rfl rfl ?_
  refine z_icmp_le (tgt := 9) dX12_max_2 (by decide) (fun q_1 => ?_) (fun q_1 => ?_)
  · have hf := (if_pos q_1).symm.trans hf
    refine z_iload_n dX12_max_9 rfl rfl ?_
    obtain ⟨rfl, rfl⟩ := z_end hf
    exact z_iret ⟨rfl, rfl, rfl⟩ (Or.inl rfl) dX12_max_10
  · have hf := (if_neg q_1).symm.trans hf
    refine z_iload_n dX12_max_5 rfl rfl ?_
    refine z_goto (tgt := 10) dX12_max_6 (by decide) ?_
    obtain ⟨rfl, rfl⟩ := z_end hf
    exact z_iret ⟨rfl, rfl, rfl⟩ (Or.inl rfl) dX12_max_10
noncomputable def f_X12_has (x0 : Int32) (x1 : Int32) (M : zM) : Option (Int32 × zM) :=
  (if (((x0 : Int32) >>> (x1 &&& 31)) &&& 1) = 1 then some (1, M) else some (0, M))
set_option maxHeartbeats 2000000 in
set_option maxRecDepth 20000 in
theorem t_X12_has {l : Launch} {x0 : Int32} {x1 : Int32} {M MO : zM} {v : Int32} (hf : f_X12_has x0 x1 M = some (v, MO)) : zMet l yX12_has cX12_has 2 (some .boolean) 1 0 0 [.int x0, .int x1] SH M (zDi SH v MO) := by
  refine zMet.of (by decide +kernel) (Nat.le_of_ble_eq_true rfl) (Or.inr (Or.inr (Or.inl rfl))) ?_
  show zA l yX12_has cX12_has 2 (some .boolean) 1 0 0 SH.length (zDi SH v MO) 0 0 0 [(0, .int x0), (1, .int x1)] [] SH M
  unfold f_X12_has at hf
  refine z_iload_n dX12_has_0 rfl rfl ?_
  refine z_iload_n dX12_has_1 rfl rfl ?_
  refine z_ishr dX12_has_2 ?_
  refine z_iconst (v := 1) dX12_has_3 (by decide) ?_
  refine z_iand dX12_has_4 ?_
  refine z_iconst (v := 1) dX12_has_5 (by decide) ?_
  refine z_icmp_ne (tgt := 13) dX12_has_6 (by decide) (fun q_1 => ?_) (fun q_1 => ?_)
  · have hf := (if_neg q_1).symm.trans hf
    refine z_iconst (v := 0) dX12_has_13 (by decide) ?_
    obtain ⟨rfl, rfl⟩ := z_end hf
    exact z_iret ⟨rfl, rfl, rfl⟩ (Or.inr ⟨rfl, (Or.inl rfl)⟩) dX12_has_14
  · have hf := (if_pos q_1).symm.trans hf
    refine z_iconst (v := 1) dX12_has_9 (by decide) ?_
    refine z_goto (tgt := 14) dX12_has_10 (by decide) ?_
    obtain ⟨rfl, rfl⟩ := z_end hf
    exact z_iret ⟨rfl, rfl, rfl⟩ (Or.inr ⟨rfl, (Or.inr rfl)⟩) dX12_has_14
noncomputable def f_X12_bits_4 (x0 : Int32) : Nat → Int32 → Int32 → zM → Option (Int32 × zM)
  | 0, _, _, _ => none
  | n + 1, x1, x2, M =>
    (if 24 ≤ x2 then some (x1, M) else zl ((x1 + (((x0 : Int32) >>> (x2 &&& 31)) &&& 1))) fun x1_2 => zl (x2 + 1) fun x2_3 => (f_X12_bits_4 x0 n x1_2 x2_3 M))
set_option maxHeartbeats 2000000 in
set_option maxRecDepth 20000 in
theorem t_X12_bits_4 {l : Launch} {x0 : Int32} {MO : zM} {v : Int32} : ∀ (n : Nat) (x1 : Int32) (x2 : Int32) (M : zM), f_X12_bits_4 x0 n x1 x2 M = some (v, MO) → zA l yX12_bits cX12_bits 3 (some .int) 1 0 0 SH.length (zDi SH v MO) 0 0 4 [(0, .int x0), (1, .int x1), (2, .int x2)] [] SH M := by
  intro n
  induction n with
  | zero =>
    intro x1 x2 M hf
    rw [f_X12_bits_4] at hf
    cases hf
  | succ n ih =>
    intro x1 x2 M hf
    rw [f_X12_bits_4] at hf
    refine z_iload_n dX12_bits_4 rfl rfl ?_
    refine z_bipush (v := 24) dX12_bits_5 (by decide) ?_
    refine z_icmp_ge (tgt := 24) dX12_bits_7 (by decide) (fun q_1 => ?_) (fun q_1 => ?_)
    · have hf := (if_pos q_1).symm.trans hf
      refine z_iload_n dX12_bits_24 rfl rfl ?_
      obtain ⟨rfl, rfl⟩ := z_end hf
      exact z_iret ⟨rfl, rfl, rfl⟩ (Or.inl rfl) dX12_bits_25
    · have hf := (if_neg q_1).symm.trans hf
      refine z_iload_n dX12_bits_10 rfl rfl ?_
      refine z_iload_n dX12_bits_11 rfl rfl ?_
      refine z_iload_n dX12_bits_12 rfl rfl ?_
      refine z_ishr dX12_bits_13 ?_
      refine z_iconst (v := 1) dX12_bits_14 (by decide) ?_
      refine z_iand dX12_bits_15 ?_
      refine z_iadd dX12_bits_16 ?_
      obtain ⟨x1_2, ex1_2, hf⟩ := zl_some hf
      refine z_istore_n' (lv' := [(1, .int x1_2), (0, .int x0), (2, .int x2)]) rfl dX12_bits_17 (by decide) ex1_2 rfl ?_
      obtain ⟨x2_3, ex2_3, hf⟩ := zl_some hf
      refine z_iinc' (lv' := [(2, .int x2_3), (1, .int x1_2), (0, .int x0)]) dX12_bits_18 rfl (by decide) ex2_3 (by decide) rfl ?_
      refine z_goto (tgt := 4) dX12_bits_21 (by decide) ?_
      refine zA.pick [(0, .int x0), (1, .int x1_2), (2, .int x2_3)] [2, 1, 0] rfl ?_
      exact ih x1_2 x2_3 M hf
noncomputable def f_X12_bits (x0 : Int32) (M : zM) : Option (Int32 × zM) :=
  (f_X12_bits_4 x0 zF 0 0 M)
set_option maxHeartbeats 2000000 in
set_option maxRecDepth 20000 in
theorem t_X12_bits {l : Launch} {x0 : Int32} {M MO : zM} {v : Int32} (hf : f_X12_bits x0 M = some (v, MO)) : zMet l yX12_bits cX12_bits 3 (some .int) 1 0 0 [.int x0] SH M (zDi SH v MO) := by
  refine zMet.of (by decide +kernel) (Nat.le_of_ble_eq_true rfl) (Or.inr (Or.inl rfl)) ?_
  show zA l yX12_bits cX12_bits 3 (some .int) 1 0 0 SH.length (zDi SH v MO) 0 0 0 [(0, .int x0)] [] SH M
  unfold f_X12_bits at hf
  refine z_iconst (v := 0) dX12_bits_0 (by decide) ?_
  refine z_istore_n' (lv' := [(1, .int 0), (0, .int x0)]) rfl dX12_bits_1 (by decide) rfl rfl ?_
  refine z_iconst (v := 0) dX12_bits_2 (by decide) ?_
  refine z_istore_n' (lv' := [(2, .int 0), (1, .int 0), (0, .int x0)]) rfl dX12_bits_3 (by decide) rfl rfl ?_
  refine zA.pick [(0, .int x0), (1, .int 0), (2, .int 0)] [2, 1, 0] rfl ?_
  exact t_X12_bits_4 zF 0 0 M hf
noncomputable def f_X12_copies_2 (x0 : Nat) (x1 : Nat) : Nat → Int32 → zM → Option (Unit × zM)
  | 0, _, _ => none
  | n + 1, x2, M =>
    (if 699 ≤ x2 then some ((), M) else if z_ix x2 (z_ln SH x0) = true then if z_ix x2 (z_ln SH x1) = true then zl (zu M.1 x1 (x2 : Int32).toNatClampNeg (M.1 x0 (x2 : Int32).toNatClampNeg), M.2) fun M_4 => zl (x2 + 1) fun x2_5 => (f_X12_copies_2 x0 x1 n x2_5 M_4) else none else none)
set_option maxHeartbeats 2000000 in
set_option maxRecDepth 20000 in
theorem t_X12_copies_2 {l : Launch} {x0 : Nat} {x1 : Nat} {MO : zM} {v : Unit} (h0 : z_tm SH 100 x0) (h1 : z_tm SH 100 x1) : ∀ (n : Nat) (x2 : Int32) (M : zM), f_X12_copies_2 x0 x1 n x2 M = some (v, MO) → zA l yX12_copies cX12_copies 3 none 1 0 0 SH.length (zDv SH MO) 0 0 2 [(0, .ref x0), (1, .ref x1), (2, .int x2)] [] SH M := by
  intro n
  induction n with
  | zero =>
    intro x2 M hf
    rw [f_X12_copies_2] at hf
    cases hf
  | succ n ih =>
    intro x2 M hf
    rw [f_X12_copies_2] at hf
    refine z_iload_n dX12_copies_2 rfl rfl ?_
    refine z_sipush (v := 699) dX12_copies_3 (by decide) ?_
    refine z_icmp_ge (tgt := 21) dX12_copies_6 (by decide) (fun q_1 => ?_) (fun q_1 => ?_)
    · have hf := (if_pos q_1).symm.trans hf
      obtain ⟨rfl, rfl⟩ := z_end hf
      exact z_vret ⟨rfl, rfl, rfl⟩ rfl dX12_copies_21
    · have hf := (if_neg q_1).symm.trans hf
      refine z_aload_n dX12_copies_9 rfl rfl ?_
      refine z_iload_n dX12_copies_10 rfl rfl ?_
      refine z_aload_n dX12_copies_11 rfl rfl ?_
      refine z_iload_n dX12_copies_12 rfl rfl ?_
      obtain ⟨g_2, hf⟩ := z_ifs hf
      refine z_iald h0 g_2 rfl dX12_copies_13 ?_
      obtain ⟨g_3, hf⟩ := z_ifs hf
      obtain ⟨M_4, eM_4, hf⟩ := zl_some hf
      refine z_iast h1 g_3 eM_4 dX12_copies_14 ?_
      obtain ⟨x2_5, ex2_5, hf⟩ := zl_some hf
      refine z_iinc' (lv' := [(2, .int x2_5), (0, .ref x0), (1, .ref x1)]) dX12_copies_15 rfl (by decide) ex2_5 (by decide) rfl ?_
      refine z_goto (tgt := 2) dX12_copies_18 (by decide) ?_
      refine zA.pick [(0, .ref x0), (1, .ref x1), (2, .int x2_5)] [1, 2, 0] rfl ?_
      exact ih x2_5 M_4 hf
noncomputable def f_X12_copies (x0 : Nat) (x1 : Nat) (M : zM) : Option (Unit × zM) :=
  (f_X12_copies_2 x0 x1 zF 0 M)
set_option maxHeartbeats 2000000 in
set_option maxRecDepth 20000 in
theorem t_X12_copies {l : Launch} {x0 : Nat} {x1 : Nat} {M MO : zM} {v : Unit} (h0 : z_tm SH 100 x0) (h1 : z_tm SH 100 x1) (hf : f_X12_copies x0 x1 M = some (v, MO)) : zMet l yX12_copies cX12_copies 3 none 1 0 0 [.ref x0, .ref x1] SH M (zDv SH MO) := by
  refine zMet.of (by decide +kernel) (Nat.le_of_ble_eq_true rfl) (Or.inl rfl) ?_
  show zA l yX12_copies cX12_copies 3 none 1 0 0 SH.length (zDv SH MO) 0 0 0 [(0, .ref x0), (1, .ref x1)] [] SH M
  unfold f_X12_copies at hf
  refine z_iconst (v := 0) dX12_copies_0 (by decide) ?_
  refine z_istore_n' (lv' := [(2, .int 0), (0, .ref x0), (1, .ref x1)]) rfl dX12_copies_1 (by decide) rfl rfl ?_
  refine zA.pick [(0, .ref x0), (1, .ref x1), (2, .int 0)] [1, 2, 0] rfl ?_
  exact t_X12_copies_2 h0 h1 zF 0 M hf
noncomputable def f_X12_isRoom (x0 : Int32) (M : zM) : Option (Int32 × zM) :=
  z_call (f_X12_in x0 0 23 M) fun v_1 M_2 => if ((v_1 : Int32) = 0 ∨ (v_1 : Int32) = 1) then some (v_1, M_2) else none
set_option maxHeartbeats 2000000 in
set_option maxRecDepth 20000 in
theorem t_X12_isRoom {l : Launch} {x0 : Int32} {M MO : zM} {v : Int32} (hf : f_X12_isRoom x0 M = some (v, MO)) : zMet l yX12_isRoom cX12_isRoom 1 (some .boolean) 2 0 0 [.int x0] SH M (zDi SH v MO) := by
  refine zMet.of (by decide +kernel) (Nat.le_of_ble_eq_true rfl) (Or.inr (Or.inr (Or.inl rfl))) ?_
  show zA l yX12_isRoom cX12_isRoom 1 (some .boolean) 2 0 0 SH.length (zDi SH v MO) 0 0 0 [(0, .int x0)] [] SH M
  unfold f_X12_isRoom at hf
  refine z_iload_n dX12_isRoom_0 rfl rfl ?_
  refine z_iconst (v := 0) dX12_isRoom_1 (by decide) ?_
  refine z_bipush (v := 23) dX12_isRoom_2 (by decide) ?_
  obtain ⟨v_1, M_2, c_3, hf⟩ := z_call_some hf
  refine z_cSi (t_X12_in  c_3) kw_X12_in lk_X12_90 rfl (by decide) rfl (Nat.le_of_ble_eq_true rfl) ⟨Nat.le_refl 0, Nat.le_refl 0⟩ dX12_isRoom_4 ?_
  obtain ⟨g_4, hf⟩ := z_ifs hf
  obtain ⟨rfl, rfl⟩ := z_end hf
  exact z_iret ⟨rfl, rfl, rfl⟩ (Or.inr ⟨rfl, g_4⟩) dX12_isRoom_7
noncomputable def f_X12_felt (x0 : Int32) (x1 : Int32) (M : zM) : Option (Int32 × zM) :=
  some (((120 + (24 * x0)) + x1), M)
set_option maxHeartbeats 2000000 in
set_option maxRecDepth 20000 in
theorem t_X12_felt {l : Launch} {x0 : Int32} {x1 : Int32} {M MO : zM} {v : Int32} (hf : f_X12_felt x0 x1 M = some (v, MO)) : zMet l yX12_felt cX12_felt 2 (some .int) 1 0 0 [.int x0, .int x1] SH M (zDi SH v MO) := by
  refine zMet.of (by decide +kernel) (Nat.le_of_ble_eq_true rfl) (Or.inr (Or.inl rfl)) ?_
  show zA l yX12_felt cX12_felt 2 (some .int) 1 0 0 SH.length (zDi SH v MO) 0 0 0 [(0, .int x0), (1, .int x1)] [] SH M
  unfold f_X12_felt at hf
  refine z_bipush (v := 120) dX12_felt_0 (by decide) ?_
  refine z_bipush (v := 24) dX12_felt_2 (by decide) ?_
  refine z_iload_n dX12_felt_4 rfl rfl ?_
  refine z_imul dX12_felt_5 ?_
  refine z_iadd dX12_felt_6 ?_
  refine z_iload_n dX12_felt_7 rfl rfl ?_
  refine z_iadd dX12_felt_8 ?_
  obtain ⟨rfl, rfl⟩ := z_end hf
  exact z_iret ⟨rfl, rfl, rfl⟩ (Or.inl rfl) dX12_felt_9
noncomputable def f_X12_feltIn_4 (x0 : Nat) (x1 : Int32) : Nat → Int32 → Int32 → zM → Option (Int32 × zM)
  | 0, _, _, _ => none
  | n + 1, x2, x3, M =>
    (if 24 ≤ x3 then some (x2, M) else z_rd (M.2.1 x0 0) fun a_2 => z_call (f_X12_felt x1 x3 M) fun v_3 M_4 => if z_ix v_3 (z_ln SH a_2) = true then zl ((x2 + (M_4.1 a_2 (v_3 : Int32).toNatClampNeg))) fun x2_7 => zl (x3 + 1) fun x3_8 => (f_X12_feltIn_4 x0 x1 n x2_7 x3_8 M_4) else none)
set_option maxHeartbeats 2000000 in
set_option maxRecDepth 20000 in
theorem t_X12_feltIn_4 {l : Launch} {x0 : Nat} {x1 : Int32} {MO : zM} {v : Int32} (h0 : z_tm SH 11 x0) : ∀ (n : Nat) (x2 : Int32) (x3 : Int32) (M : zM), f_X12_feltIn_4 x0 x1 n x2 x3 M = some (v, MO) → zA l yX12_feltIn cX12_feltIn 4 (some .int) 2 0 0 SH.length (zDi SH v MO) 0 0 4 [(0, .ref x0), (1, .int x1), (2, .int x2), (3, .int x3)] [] SH M := by
  intro n
  induction n with
  | zero =>
    intro x2 x3 M hf
    rw [f_X12_feltIn_4] at hf
    cases hf
  | succ n ih =>
    intro x2 x3 M hf
    rw [f_X12_feltIn_4] at hf
    refine z_iload_n dX12_feltIn_4 rfl rfl ?_
    refine z_bipush (v := 24) dX12_feltIn_5 (by decide) ?_
    refine z_icmp_ge (tgt := 29) dX12_feltIn_7 (by decide) (fun q_1 => ?_) (fun q_1 => ?_)
    · have hf := (if_pos q_1).symm.trans hf
      refine z_iload_n dX12_feltIn_29 rfl rfl ?_
      obtain ⟨rfl, rfl⟩ := z_end hf
      exact z_iret ⟨rfl, rfl, rfl⟩ (Or.inl rfl) dX12_feltIn_30
    · have hf := (if_neg q_1).symm.trans hf
      refine z_iload_n dX12_feltIn_10 rfl rfl ?_
      refine z_aload_n dX12_feltIn_11 rfl rfl ?_
      obtain ⟨a_2, ra_2, hf⟩ := z_rd_some hf
      refine zgR fl_X12_7 h0 (fun _ => rfl) ra_2 dX12_feltIn_12 (fun ha_2 => ?_)
      refine z_iload_n dX12_feltIn_15 rfl rfl ?_
      refine z_iload_n dX12_feltIn_16 rfl rfl ?_
      obtain ⟨v_3, M_4, c_5, hf⟩ := z_call_some hf
      refine z_cSi (t_X12_felt  c_5) kw_X12_felt lk_X12_94 rfl (by decide) rfl (Nat.le_of_ble_eq_true rfl) ⟨Nat.le_refl 0, Nat.le_refl 0⟩ dX12_feltIn_17 ?_
      obtain ⟨g_6, hf⟩ := z_ifs hf
      refine z_iald ha_2 g_6 rfl dX12_feltIn_20 ?_
      refine z_iadd dX12_feltIn_21 ?_
      obtain ⟨x2_7, ex2_7, hf⟩ := zl_some hf
      refine z_istore_n' (lv' := [(2, .int x2_7), (0, .ref x0), (1, .int x1), (3, .int x3)]) rfl dX12_feltIn_22 (by decide) ex2_7 rfl ?_
      obtain ⟨x3_8, ex3_8, hf⟩ := zl_some hf
      refine z_iinc' (lv' := [(3, .int x3_8), (2, .int x2_7), (0, .ref x0), (1, .int x1)]) dX12_feltIn_23 rfl (by decide) ex3_8 (by decide) rfl ?_
      refine z_goto (tgt := 4) dX12_feltIn_26 (by decide) ?_
      refine zA.pick [(0, .ref x0), (1, .int x1), (2, .int x2_7), (3, .int x3_8)] [2, 3, 1, 0] rfl ?_
      exact ih x2_7 x3_8 M_4 hf
noncomputable def f_X12_feltIn (x0 : Nat) (x1 : Int32) (M : zM) : Option (Int32 × zM) :=
  (f_X12_feltIn_4 x0 x1 zF 0 0 M)
set_option maxHeartbeats 2000000 in
set_option maxRecDepth 20000 in
theorem t_X12_feltIn {l : Launch} {x0 : Nat} {x1 : Int32} {M MO : zM} {v : Int32} (h0 : z_tm SH 11 x0) (hf : f_X12_feltIn x0 x1 M = some (v, MO)) : zMet l yX12_feltIn cX12_feltIn 4 (some .int) 2 0 0 [.ref x0, .int x1] SH M (zDi SH v MO) := by
  refine zMet.of (by decide +kernel) (Nat.le_of_ble_eq_true rfl) (Or.inr (Or.inl rfl)) ?_
  show zA l yX12_feltIn cX12_feltIn 4 (some .int) 2 0 0 SH.length (zDi SH v MO) 0 0 0 [(0, .ref x0), (1, .int x1)] [] SH M
  unfold f_X12_feltIn at hf
  refine z_iconst (v := 0) dX12_feltIn_0 (by decide) ?_
  refine z_istore_n' (lv' := [(2, .int 0), (0, .ref x0), (1, .int x1)]) rfl dX12_feltIn_1 (by decide) rfl rfl ?_
  refine z_iconst (v := 0) dX12_feltIn_2 (by decide) ?_
  refine z_istore_n' (lv' := [(3, .int 0), (2, .int 0), (0, .ref x0), (1, .int x1)]) rfl dX12_feltIn_3 (by decide) rfl rfl ?_
  refine zA.pick [(0, .ref x0), (1, .int x1), (2, .int 0), (3, .int 0)] [2, 3, 1, 0] rfl ?_
  exact t_X12_feltIn_4 h0 zF 0 0 M hf
noncomputable def f_X12_takesIn (x0 : Nat) (x1 : Int32) (M : zM) : Option (Int32 × zM) :=
  z_rd (M.2.1 x0 0) fun a_1 => if z_ix (0 + x1) (z_ln SH a_1) = true then (if (M.1 a_1 ((0 + x1) : Int32).toNatClampNeg) = 1 then z_rd (M.2.1 x0 0) fun a_4 => if z_ix (48 + x1) (z_ln SH a_4) = true then (if (M.1 a_4 ((48 + x1) : Int32).toNatClampNeg) = 1 then some (1, M) else some (0, M)) else none else some (0, M)) else none
set_option maxHeartbeats 2000000 in
set_option maxRecDepth 20000 in
theorem t_X12_takesIn {l : Launch} {x0 : Nat} {x1 : Int32} {M MO : zM} {v : Int32} (h0 : z_tm SH 11 x0) (hf : f_X12_takesIn x0 x1 M = some (v, MO)) : zMet l yX12_takesIn cX12_takesIn 2 (some .boolean) 1 0 0 [.ref x0, .int x1] SH M (zDi SH v MO) := by
  refine zMet.of (by decide +kernel) (Nat.le_of_ble_eq_true rfl) (Or.inr (Or.inr (Or.inl rfl))) ?_
  show zA l yX12_takesIn cX12_takesIn 2 (some .boolean) 1 0 0 SH.length (zDi SH v MO) 0 0 0 [(0, .ref x0), (1, .int x1)] [] SH M
  unfold f_X12_takesIn at hf
  refine z_aload_n dX12_takesIn_0 rfl rfl ?_
  obtain ⟨a_1, ra_1, hf⟩ := z_rd_some hf
  refine zgR fl_X12_7 h0 (fun _ => rfl) ra_1 dX12_takesIn_1 (fun ha_1 => ?_)
  refine z_iconst (v := 0) dX12_takesIn_4 (by decide) ?_
  refine z_iload_n dX12_takesIn_5 rfl rfl ?_
  refine z_iadd dX12_takesIn_6 ?_
  obtain ⟨g_2, hf⟩ := z_ifs hf
  refine z_iald ha_1 g_2 rfl dX12_takesIn_7 ?_
  refine z_iconst (v := 1) dX12_takesIn_8 (by decide) ?_
  refine z_icmp_ne (tgt := 29) dX12_takesIn_9 (by decide) (fun q_3 => ?_) (fun q_3 => ?_)
  · have hf := (if_neg q_3).symm.trans hf
    refine z_iconst (v := 0) dX12_takesIn_29 (by decide) ?_
    obtain ⟨rfl, rfl⟩ := z_end hf
    exact z_iret ⟨rfl, rfl, rfl⟩ (Or.inr ⟨rfl, (Or.inl rfl)⟩) dX12_takesIn_30
  · have hf := (if_pos q_3).symm.trans hf
    refine z_aload_n dX12_takesIn_12 rfl rfl ?_
    obtain ⟨a_4, ra_4, hf⟩ := z_rd_some hf
    refine zgR fl_X12_7 h0 (fun _ => rfl) ra_4 dX12_takesIn_13 (fun ha_4 => ?_)
    refine z_bipush (v := 48) dX12_takesIn_16 (by decide) ?_
    refine z_iload_n dX12_takesIn_18 rfl rfl ?_
    refine z_iadd dX12_takesIn_19 ?_
    obtain ⟨g_5, hf⟩ := z_ifs hf
    refine z_iald ha_4 g_5 rfl dX12_takesIn_20 ?_
    refine z_iconst (v := 1) dX12_takesIn_21 (by decide) ?_
    refine z_icmp_ne (tgt := 29) dX12_takesIn_22 (by decide) (fun q_6 => ?_) (fun q_6 => ?_)
    · have hf := (if_neg q_6).symm.trans hf
      refine z_iconst (v := 0) dX12_takesIn_29 (by decide) ?_
      obtain ⟨rfl, rfl⟩ := z_end hf
      exact z_iret ⟨rfl, rfl, rfl⟩ (Or.inr ⟨rfl, (Or.inl rfl)⟩) dX12_takesIn_30
    · have hf := (if_pos q_6).symm.trans hf
      refine z_iconst (v := 1) dX12_takesIn_25 (by decide) ?_
      refine z_goto (tgt := 30) dX12_takesIn_26 (by decide) ?_
      obtain ⟨rfl, rfl⟩ := z_end hf
      exact z_iret ⟨rfl, rfl, rfl⟩ (Or.inr ⟨rfl, (Or.inr rfl)⟩) dX12_takesIn_30
noncomputable def f_X12_turned (x0 : Int32) (x1 : Int32) (M : zM) : Option (Int32 × zM) :=
  z_call (f_X12_min 3 ((x0 + x1) - 1) M) fun v_1 M_2 => z_call (f_X12_max 0 v_1 M_2) fun v_4 M_5 => some (v_4, M_5)
set_option maxHeartbeats 2000000 in
set_option maxRecDepth 20000 in
theorem t_X12_turned {l : Launch} {x0 : Int32} {x1 : Int32} {M MO : zM} {v : Int32} (hf : f_X12_turned x0 x1 M = some (v, MO)) : zMet l yX12_turned cX12_turned 2 (some .int) 2 0 0 [.int x0, .int x1] SH M (zDi SH v MO) := by
  refine zMet.of (by decide +kernel) (Nat.le_of_ble_eq_true rfl) (Or.inr (Or.inl rfl)) ?_
  show zA l yX12_turned cX12_turned 2 (some .int) 2 0 0 SH.length (zDi SH v MO) 0 0 0 [(0, .int x0), (1, .int x1)] [] SH M
  unfold f_X12_turned at hf
  refine z_iconst (v := 0) dX12_turned_0 (by decide) ?_
  refine z_iconst (v := 3) dX12_turned_1 (by decide) ?_
  refine z_iload_n dX12_turned_2 rfl rfl ?_
  refine z_iload_n dX12_turned_3 rfl rfl ?_
  refine z_iadd dX12_turned_4 ?_
  refine z_iconst (v := 1) dX12_turned_5 (by decide) ?_
  refine z_isub dX12_turned_6 ?_
  obtain ⟨v_1, M_2, c_3, hf⟩ := z_call_some hf
  refine z_cSi (t_X12_min  c_3) kw_X12_min lk_X12_98 rfl (by decide) rfl (Nat.le_of_ble_eq_true rfl) ⟨Nat.le_refl 0, Nat.le_refl 0⟩ dX12_turned_7 ?_
  obtain ⟨v_4, M_5, c_6, hf⟩ := z_call_some hf
  refine z_cSi (t_X12_max  c_6) kw_X12_max lk_X12_101 rfl (by decide) rfl (Nat.le_of_ble_eq_true rfl) ⟨Nat.le_refl 0, Nat.le_refl 0⟩ dX12_turned_10 ?_
  obtain ⟨rfl, rfl⟩ := z_end hf
  exact z_iret ⟨rfl, rfl, rfl⟩ (Or.inl rfl) dX12_turned_13
noncomputable def f_X12_above (x0 : Nat) (x1 : Int32) (M : zM) : Option (Int32 × zM) :=
  (if (x1 / 4) = 5 then some (24, M) else z_rd (M.2.1 x0 0) fun a_2 => if z_ix (72 + x1) (z_ln SH a_2) = true then z_call (f_X12_turned (x1 - x1 / 4 * 4) (M.1 a_2 ((72 + x1) : Int32).toNatClampNeg) M) fun v_4 M_5 => some (((((x1 / 4) * 4) + 4) + v_4), M_5) else none)
set_option maxHeartbeats 2000000 in
set_option maxRecDepth 20000 in
theorem t_X12_above {l : Launch} {x0 : Nat} {x1 : Int32} {M MO : zM} {v : Int32} (h0 : z_tm SH 11 x0) (hf : f_X12_above x0 x1 M = some (v, MO)) : zMet l yX12_above cX12_above 2 (some .int) 3 0 0 [.ref x0, .int x1] SH M (zDi SH v MO) := by
  refine zMet.of (by decide +kernel) (Nat.le_of_ble_eq_true rfl) (Or.inr (Or.inl rfl)) ?_
  show zA l yX12_above cX12_above 2 (some .int) 3 0 0 SH.length (zDi SH v MO) 0 0 0 [(0, .ref x0), (1, .int x1)] [] SH M
  unfold f_X12_above at hf
  refine z_iload_n dX12_above_0 rfl rfl ?_
  refine z_iconst (v := 4) dX12_above_1 (by decide) ?_
  refine z_idiv dX12_above_2 (by decide) ?_
  refine z_iconst (v := 5) dX12_above_3 (by decide) ?_
  refine z_icmp_ne (tgt := 10) dX12_above_4 (by decide) (fun q_1 => ?_) (fun q_1 => ?_)
  · have hf := (if_neg q_1).symm.trans hf
    refine z_iload_n dX12_above_10 rfl rfl ?_
    refine z_iconst (v := 4) dX12_above_11 (by decide) ?_
    refine z_idiv dX12_above_12 (by decide) ?_
    refine z_iconst (v := 4) dX12_above_13 (by decide) ?_
    refine z_imul dX12_above_14 ?_
    refine z_iconst (v := 4) dX12_above_15 (by decide) ?_
    refine z_iadd dX12_above_16 ?_
    refine z_iload_n dX12_above_17 rfl rfl ?_
    refine z_iconst (v := 4) dX12_above_18 (by decide) ?_
    refine z_irem dX12_above_19 (by decide) ?_
    refine z_aload_n dX12_above_20 rfl rfl ?_
    obtain ⟨a_2, ra_2, hf⟩ := z_rd_some hf
    refine zgR fl_X12_7 h0 (fun _ => rfl) ra_2 dX12_above_21 (fun ha_2 => ?_)
    refine z_bipush (v := 72) dX12_above_24 (by decide) ?_
    refine z_iload_n dX12_above_26 rfl rfl ?_
    refine z_iadd dX12_above_27 ?_
    obtain ⟨g_3, hf⟩ := z_ifs hf
    refine z_iald ha_2 g_3 rfl dX12_above_28 ?_
    obtain ⟨v_4, M_5, c_6, hf⟩ := z_call_some hf
    refine z_cSi (t_X12_turned  c_6) kw_X12_turned lk_X12_104 rfl (by decide) rfl (Nat.le_of_ble_eq_true rfl) ⟨Nat.le_refl 0, Nat.le_refl 0⟩ dX12_above_29 ?_
    refine z_iadd dX12_above_32 ?_
    obtain ⟨rfl, rfl⟩ := z_end hf
    exact z_iret ⟨rfl, rfl, rfl⟩ (Or.inl rfl) dX12_above_33
  · have hf := (if_pos q_1).symm.trans hf
    refine z_bipush (v := 24) dX12_above_7 (by decide) ?_
    obtain ⟨rfl, rfl⟩ := z_end hf
    exact z_iret ⟨rfl, rfl, rfl⟩ (Or.inl rfl) dX12_above_9
noncomputable def f_X12_laysGuest_22 (x0 : Nat) (x1 : Int32) : Nat → Int32 → zM → Option (Unit × zM)
  | 0, _, _ => none
  | n + 1, x4, M =>
    (if 24 ≤ x4 then some ((), M) else z_rd (M.2.1 x0 0) fun a_2 => z_call (f_X12_felt x1 x4 M) fun v_3 M_4 => if z_ix v_3 (z_ln SH a_2) = true then zl (zu M_4.1 a_2 (v_3 : Int32).toNatClampNeg 0, M_4.2) fun M_7 => zl (x4 + 1) fun x4_8 => (f_X12_laysGuest_22 x0 x1 n x4_8 M_7) else none)
set_option maxHeartbeats 2000000 in
set_option maxRecDepth 20000 in
theorem t_X12_laysGuest_22 {l : Launch} {x0 : Nat} {x1 : Int32} {MO : zM} {v : Unit} (h0 : z_tm SH 11 x0) : ∀ (n : Nat) (x4 : Int32) (M : zM), f_X12_laysGuest_22 x0 x1 n x4 M = some (v, MO) → zA l yX12_laysGuest cX12_laysGuest 5 none 2 0 0 SH.length (zDv SH MO) 0 0 22 [(0, .ref x0), (1, .int x1), (4, .int x4)] [] SH M := by
  intro n
  induction n with
  | zero =>
    intro x4 M hf
    rw [f_X12_laysGuest_22] at hf
    cases hf
  | succ n ih =>
    intro x4 M hf
    rw [f_X12_laysGuest_22] at hf
    refine z_iload dX12_laysGuest_22 rfl ?_
    refine z_bipush (v := 24) dX12_laysGuest_24 (by decide) ?_
    refine z_icmp_ge (tgt := 47) dX12_laysGuest_26 (by decide) (fun q_1 => ?_) (fun q_1 => ?_)
    · have hf := (if_pos q_1).symm.trans hf
      obtain ⟨rfl, rfl⟩ := z_end hf
      exact z_vret ⟨rfl, rfl, rfl⟩ rfl dX12_laysGuest_47
    · have hf := (if_neg q_1).symm.trans hf
      refine z_aload_n dX12_laysGuest_29 rfl rfl ?_
      obtain ⟨a_2, ra_2, hf⟩ := z_rd_some hf
      refine zgR fl_X12_7 h0 (fun _ => rfl) ra_2 dX12_laysGuest_30 (fun ha_2 => ?_)
      refine z_iload_n dX12_laysGuest_33 rfl rfl ?_
      refine z_iload dX12_laysGuest_34 rfl ?_
      obtain ⟨v_3, M_4, c_5, hf⟩ := z_call_some hf
      refine z_cSi (t_X12_felt  c_5) kw_X12_felt lk_X12_94 rfl (by decide) rfl (Nat.le_of_ble_eq_true rfl) ⟨Nat.le_refl 0, Nat.le_refl 0⟩ dX12_laysGuest_36 ?_
      refine z_iconst (v := 0) dX12_laysGuest_39 (by decide) ?_
      obtain ⟨g_6, hf⟩ := z_ifs hf
      obtain ⟨M_7, eM_7, hf⟩ := zl_some hf
      refine z_iast ha_2 g_6 eM_7 dX12_laysGuest_40 ?_
      obtain ⟨x4_8, ex4_8, hf⟩ := zl_some hf
      refine z_iinc' (lv' := [(4, .int x4_8), (0, .ref x0), (1, .int x1)]) dX12_laysGuest_41 rfl (by decide) ex4_8 (by decide) rfl ?_
      refine z_goto (tgt := 22) dX12_laysGuest_44 (by decide) ?_
      refine zA.pick [(0, .ref x0), (1, .int x1), (4, .int x4_8)] [1, 2, 0] rfl ?_
      exact ih x4_8 M_7 hf
noncomputable def f_X12_laysGuest (x0 : Nat) (x1 : Int32) (x2 : Int32) (x3 : Int32) (M : zM) : Option (Unit × zM) :=
  z_rd (M.2.1 x0 0) fun a_1 => if z_ix (0 + x1) (z_ln SH a_1) = true then zl (zu M.1 a_1 ((0 + x1) : Int32).toNatClampNeg x2, M.2) fun M_3 => z_rd (M_3.2.1 x0 0) fun a_4 => if z_ix (24 + x1) (z_ln SH a_4) = true then zl (zu M_3.1 a_4 ((24 + x1) : Int32).toNatClampNeg x3, M_3.2) fun M_6 => (f_X12_laysGuest_22 x0 x1 zF 0 M_6) else none else none
set_option maxHeartbeats 2000000 in
set_option maxRecDepth 20000 in
theorem t_X12_laysGuest {l : Launch} {x0 : Nat} {x1 : Int32} {x2 : Int32} {x3 : Int32} {M MO : zM} {v : Unit} (h0 : z_tm SH 11 x0) (hf : f_X12_laysGuest x0 x1 x2 x3 M = some (v, MO)) : zMet l yX12_laysGuest cX12_laysGuest 5 none 2 0 0 [.ref x0, .int x1, .int x2, .int x3] SH M (zDv SH MO) := by
  refine zMet.of (by decide +kernel) (Nat.le_of_ble_eq_true rfl) (Or.inl rfl) ?_
  show zA l yX12_laysGuest cX12_laysGuest 5 none 2 0 0 SH.length (zDv SH MO) 0 0 0 [(0, .ref x0), (1, .int x1), (2, .int x2), (3, .int x3)] [] SH M
  unfold f_X12_laysGuest at hf
  refine z_aload_n dX12_laysGuest_0 rfl rfl ?_
  obtain ⟨a_1, ra_1, hf⟩ := z_rd_some hf
  refine zgR fl_X12_7 h0 (fun _ => rfl) ra_1 dX12_laysGuest_1 (fun ha_1 => ?_)
  refine z_iconst (v := 0) dX12_laysGuest_4 (by decide) ?_
  refine z_iload_n dX12_laysGuest_5 rfl rfl ?_
  refine z_iadd dX12_laysGuest_6 ?_
  refine z_iload_n dX12_laysGuest_7 rfl rfl ?_
  obtain ⟨g_2, hf⟩ := z_ifs hf
  obtain ⟨M_3, eM_3, hf⟩ := zl_some hf
  refine z_iast ha_1 g_2 eM_3 dX12_laysGuest_8 ?_
  refine z_aload_n dX12_laysGuest_9 rfl rfl ?_
  obtain ⟨a_4, ra_4, hf⟩ := z_rd_some hf
  refine zgR fl_X12_7 h0 (fun _ => rfl) ra_4 dX12_laysGuest_10 (fun ha_4 => ?_)
  refine z_bipush (v := 24) dX12_laysGuest_13 (by decide) ?_
  refine z_iload_n dX12_laysGuest_15 rfl rfl ?_
  refine z_iadd dX12_laysGuest_16 ?_
  refine z_iload_n dX12_laysGuest_17 rfl rfl ?_
  obtain ⟨g_5, hf⟩ := z_ifs hf
  obtain ⟨M_6, eM_6, hf⟩ := zl_some hf
  refine z_iast ha_4 g_5 eM_6 dX12_laysGuest_18 ?_
  refine z_iconst (v := 0) dX12_laysGuest_19 (by decide) ?_
  refine z_istore' (lv' := [(4, .int 0), (0, .ref x0), (1, .int x1), (2, .int x2), (3, .int x3)]) dX12_laysGuest_20 (by decide) rfl rfl ?_
  refine zA.pick [(0, .ref x0), (1, .int x1), (4, .int 0)] [1, 2, 0] rfl ?_
  exact t_X12_laysGuest_22 h0 zF 0 M_6 hf
noncomputable def f_X12_guest (x0 : Nat) (x1 : Int32) (x2 : Int32) (M : zM) : Option (Int32 × zM) :=
  z_call (f_X12_isRoom x1 M) fun v_1 M_2 => (if v_1 = 0 then some (0, M_2) else z_call (f_X12_in x2 0 9999 M_2) fun v_5 M_6 => (if v_5 = 0 then some (0, M_6) else z_call (f_X12_laysGuest x0 x1 1 x2 M_6) fun v_9 M_10 => some (1, M_10)))
set_option maxHeartbeats 2000000 in
set_option maxRecDepth 20000 in
theorem t_X12_guest {l : Launch} {x0 : Nat} {x1 : Int32} {x2 : Int32} {M MO : zM} {v : Int32} (h0 : z_tm SH 11 x0) (hf : f_X12_guest x0 x1 x2 M = some (v, MO)) : zMet l yX12_guest cX12_guest 3 (some .boolean) 3 0 0 [.ref x0, .int x1, .int x2] SH M (zDi SH v MO) := by
  refine zMet.of (by decide +kernel) (Nat.le_of_ble_eq_true rfl) (Or.inr (Or.inr (Or.inl rfl))) ?_
  show zA l yX12_guest cX12_guest 3 (some .boolean) 3 0 0 SH.length (zDi SH v MO) 0 0 0 [(0, .ref x0), (1, .int x1), (2, .int x2)] [] SH M
  unfold f_X12_guest at hf
  refine z_iload_n dX12_guest_0 rfl rfl ?_
  obtain ⟨v_1, M_2, c_3, hf⟩ := z_call_some hf
  refine z_cSi (t_X12_isRoom  c_3) kw_X12_isRoom lk_X12_107 rfl (by decide) rfl (Nat.le_of_ble_eq_true rfl) ⟨Nat.le_refl 0, Nat.le_refl 0⟩ dX12_guest_1 ?_
  refine z_if_eq (tgt := 18) dX12_guest_4 (by decide) (fun q_4 => ?_) (fun q_4 => ?_)
  · have hf := (if_pos q_4).symm.trans hf
    refine z_iconst (v := 0) dX12_guest_18 (by decide) ?_
    obtain ⟨rfl, rfl⟩ := z_end hf
    exact z_iret ⟨rfl, rfl, rfl⟩ (Or.inr ⟨rfl, (Or.inl rfl)⟩) dX12_guest_19
  · have hf := (if_neg q_4).symm.trans hf
    refine z_iload_n dX12_guest_7 rfl rfl ?_
    refine z_iconst (v := 0) dX12_guest_8 (by decide) ?_
    refine z_sipush (v := 9999) dX12_guest_9 (by decide) ?_
    obtain ⟨v_5, M_6, c_7, hf⟩ := z_call_some hf
    refine z_cSi (t_X12_in  c_7) kw_X12_in lk_X12_90 rfl (by decide) rfl (Nat.le_of_ble_eq_true rfl) ⟨Nat.le_refl 0, Nat.le_refl 0⟩ dX12_guest_12 ?_
    refine z_if_ne (tgt := 20) dX12_guest_15 (by decide) (fun q_8 => ?_) (fun q_8 => ?_)
    · have hf := (if_neg q_8).symm.trans hf
      refine z_aload_n dX12_guest_20 rfl rfl ?_
      refine z_iload_n dX12_guest_21 rfl rfl ?_
      refine z_iconst (v := 1) dX12_guest_22 (by decide) ?_
      refine z_iload_n dX12_guest_23 rfl rfl ?_
      obtain ⟨v_9, M_10, c_11, hf⟩ := z_call_some hf
      refine z_cVv (t_X12_laysGuest h0 c_11) kw_X12_laysGuest lk_X12_111 h0 rfl (by decide) rfl (Nat.le_of_ble_eq_true rfl) ⟨Nat.le_refl 0, Nat.le_refl 0⟩ dX12_guest_24 ?_
      refine z_iconst (v := 1) dX12_guest_27 (by decide) ?_
      obtain ⟨rfl, rfl⟩ := z_end hf
      exact z_iret ⟨rfl, rfl, rfl⟩ (Or.inr ⟨rfl, (Or.inr rfl)⟩) dX12_guest_28
    · have hf := (if_pos q_8).symm.trans hf
      refine z_iconst (v := 0) dX12_guest_18 (by decide) ?_
      obtain ⟨rfl, rfl⟩ := z_end hf
      exact z_iret ⟨rfl, rfl, rfl⟩ (Or.inr ⟨rfl, (Or.inl rfl)⟩) dX12_guest_19
noncomputable def f_X12_grille_26 (s0 : Nat) (s1 : Int32) (s2 : Int32) (M : zM) : Option (Int32 × zM) :=
  if z_ix s1 (z_ln SH s0) = true then zl (zu M.1 s0 (s1 : Int32).toNatClampNeg s2, M.2) fun M_2 => some (1, M_2) else none
set_option maxHeartbeats 2000000 in
set_option maxRecDepth 20000 in
theorem t_X12_grille_26 {l : Launch} {s0 : Nat} {s1 : Int32} {s2 : Int32} {M MO : zM} {v : Int32} (hs0 : z_tm SH 100 s0) (hf : f_X12_grille_26  s0 s1 s2 M = some (v, MO)) : zA l yX12_grille cX12_grille 3 (some .boolean) 3 0 0 SH.length (zDi SH v MO) 0 0 26 [] [.int s2, .int s1, .ref s0] SH M := by
  unfold f_X12_grille_26 at hf
  obtain ⟨g_1, hf⟩ := z_ifs hf
  obtain ⟨M_2, eM_2, hf⟩ := zl_some hf
  refine z_iast hs0 g_1 eM_2 dX12_grille_26 ?_
  refine z_iconst (v := 1) dX12_grille_27 (by decide) ?_
  obtain ⟨rfl, rfl⟩ := z_end hf
  exact z_iret ⟨rfl, rfl, rfl⟩ (Or.inr ⟨rfl, (Or.inr rfl)⟩) dX12_grille_28
noncomputable def f_X12_grille (x0 : Nat) (x1 : Int32) (x2 : Int32) (M : zM) : Option (Int32 × zM) :=
  z_call (f_X12_isRoom x1 M) fun v_1 M_2 => (if v_1 = 0 then some (0, M_2) else z_rd (M_2.2.1 x0 0) fun a_5 => (if x2 = 0 then (f_X12_grille_26 a_5 (48 + x1) 0 M_2) else (f_X12_grille_26 a_5 (48 + x1) 1 M_2)))
set_option maxHeartbeats 2000000 in
set_option maxRecDepth 20000 in
theorem t_X12_grille {l : Launch} {x0 : Nat} {x1 : Int32} {x2 : Int32} {M MO : zM} {v : Int32} (h0 : z_tm SH 11 x0) (hf : f_X12_grille x0 x1 x2 M = some (v, MO)) : zMet l yX12_grille cX12_grille 3 (some .boolean) 3 0 0 [.ref x0, .int x1, .int x2] SH M (zDi SH v MO) := by
  refine zMet.of (by decide +kernel) (Nat.le_of_ble_eq_true rfl) (Or.inr (Or.inr (Or.inl rfl))) ?_
  show zA l yX12_grille cX12_grille 3 (some .boolean) 3 0 0 SH.length (zDi SH v MO) 0 0 0 [(0, .ref x0), (1, .int x1), (2, .int x2)] [] SH M
  unfold f_X12_grille at hf
  refine z_iload_n dX12_grille_0 rfl rfl ?_
  obtain ⟨v_1, M_2, c_3, hf⟩ := z_call_some hf
  refine z_cSi (t_X12_isRoom  c_3) kw_X12_isRoom lk_X12_107 rfl (by decide) rfl (Nat.le_of_ble_eq_true rfl) ⟨Nat.le_refl 0, Nat.le_refl 0⟩ dX12_grille_1 ?_
  refine z_if_ne (tgt := 9) dX12_grille_4 (by decide) (fun q_4 => ?_) (fun q_4 => ?_)
  · have hf := (if_neg q_4).symm.trans hf
    refine z_aload_n dX12_grille_9 rfl rfl ?_
    obtain ⟨a_5, ra_5, hf⟩ := z_rd_some hf
    refine zgR fl_X12_7 h0 (fun _ => rfl) ra_5 dX12_grille_10 (fun ha_5 => ?_)
    refine z_bipush (v := 48) dX12_grille_13 (by decide) ?_
    refine z_iload_n dX12_grille_15 rfl rfl ?_
    refine z_iadd dX12_grille_16 ?_
    refine z_iload_n dX12_grille_17 rfl rfl ?_
    refine z_if_eq (tgt := 25) dX12_grille_18 (by decide) (fun q_6 => ?_) (fun q_6 => ?_)
    · have hf := (if_pos q_6).symm.trans hf
      refine z_iconst (v := 0) dX12_grille_25 (by decide) ?_
      refine zA.pick [] [] rfl ?_
      exact t_X12_grille_26 ha_5 hf
    · have hf := (if_neg q_6).symm.trans hf
      refine z_iconst (v := 1) dX12_grille_21 (by decide) ?_
      refine z_goto (tgt := 26) dX12_grille_22 (by decide) ?_
      refine zA.pick [] [] rfl ?_
      exact t_X12_grille_26 ha_5 hf
  · have hf := (if_pos q_4).symm.trans hf
    refine z_iconst (v := 0) dX12_grille_7 (by decide) ?_
    obtain ⟨rfl, rfl⟩ := z_end hf
    exact z_iret ⟨rfl, rfl, rfl⟩ (Or.inr ⟨rfl, (Or.inl rfl)⟩) dX12_grille_8
noncomputable def f_X12_louvre (x0 : Nat) (x1 : Int32) (x2 : Int32) (M : zM) : Option (Int32 × zM) :=
  z_call (f_X12_isRoom x1 M) fun v_1 M_2 => (if v_1 = 0 then some (0, M_2) else z_call (f_X12_in x2 0 2 M_2) fun v_5 M_6 => (if v_5 = 0 then some (0, M_6) else z_rd (M_6.2.1 x0 0) fun a_9 => if z_ix (72 + x1) (z_ln SH a_9) = true then zl (zu M_6.1 a_9 ((72 + x1) : Int32).toNatClampNeg x2, M_6.2) fun M_11 => some (1, M_11) else none))
set_option maxHeartbeats 2000000 in
set_option maxRecDepth 20000 in
theorem t_X12_louvre {l : Launch} {x0 : Nat} {x1 : Int32} {x2 : Int32} {M MO : zM} {v : Int32} (h0 : z_tm SH 11 x0) (hf : f_X12_louvre x0 x1 x2 M = some (v, MO)) : zMet l yX12_louvre cX12_louvre 3 (some .boolean) 3 0 0 [.ref x0, .int x1, .int x2] SH M (zDi SH v MO) := by
  refine zMet.of (by decide +kernel) (Nat.le_of_ble_eq_true rfl) (Or.inr (Or.inr (Or.inl rfl))) ?_
  show zA l yX12_louvre cX12_louvre 3 (some .boolean) 3 0 0 SH.length (zDi SH v MO) 0 0 0 [(0, .ref x0), (1, .int x1), (2, .int x2)] [] SH M
  unfold f_X12_louvre at hf
  refine z_iload_n dX12_louvre_0 rfl rfl ?_
  obtain ⟨v_1, M_2, c_3, hf⟩ := z_call_some hf
  refine z_cSi (t_X12_isRoom  c_3) kw_X12_isRoom lk_X12_107 rfl (by decide) rfl (Nat.le_of_ble_eq_true rfl) ⟨Nat.le_refl 0, Nat.le_refl 0⟩ dX12_louvre_1 ?_
  refine z_if_eq (tgt := 16) dX12_louvre_4 (by decide) (fun q_4 => ?_) (fun q_4 => ?_)
  · have hf := (if_pos q_4).symm.trans hf
    refine z_iconst (v := 0) dX12_louvre_16 (by decide) ?_
    obtain ⟨rfl, rfl⟩ := z_end hf
    exact z_iret ⟨rfl, rfl, rfl⟩ (Or.inr ⟨rfl, (Or.inl rfl)⟩) dX12_louvre_17
  · have hf := (if_neg q_4).symm.trans hf
    refine z_iload_n dX12_louvre_7 rfl rfl ?_
    refine z_iconst (v := 0) dX12_louvre_8 (by decide) ?_
    refine z_iconst (v := 2) dX12_louvre_9 (by decide) ?_
    obtain ⟨v_5, M_6, c_7, hf⟩ := z_call_some hf
    refine z_cSi (t_X12_in  c_7) kw_X12_in lk_X12_90 rfl (by decide) rfl (Nat.le_of_ble_eq_true rfl) ⟨Nat.le_refl 0, Nat.le_refl 0⟩ dX12_louvre_10 ?_
    refine z_if_ne (tgt := 18) dX12_louvre_13 (by decide) (fun q_8 => ?_) (fun q_8 => ?_)
    · have hf := (if_neg q_8).symm.trans hf
      refine z_aload_n dX12_louvre_18 rfl rfl ?_
      obtain ⟨a_9, ra_9, hf⟩ := z_rd_some hf
      refine zgR fl_X12_7 h0 (fun _ => rfl) ra_9 dX12_louvre_19 (fun ha_9 => ?_)
      refine z_bipush (v := 72) dX12_louvre_22 (by decide) ?_
      refine z_iload_n dX12_louvre_24 rfl rfl ?_
      refine z_iadd dX12_louvre_25 ?_
      refine z_iload_n dX12_louvre_26 rfl rfl ?_
      obtain ⟨g_10, hf⟩ := z_ifs hf
      obtain ⟨M_11, eM_11, hf⟩ := zl_some hf
      refine z_iast ha_9 g_10 eM_11 dX12_louvre_27 ?_
      refine z_iconst (v := 1) dX12_louvre_28 (by decide) ?_
      obtain ⟨rfl, rfl⟩ := z_end hf
      exact z_iret ⟨rfl, rfl, rfl⟩ (Or.inr ⟨rfl, (Or.inr rfl)⟩) dX12_louvre_29
    · have hf := (if_pos q_8).symm.trans hf
      refine z_iconst (v := 0) dX12_louvre_16 (by decide) ?_
      obtain ⟨rfl, rfl⟩ := z_end hf
      exact z_iret ⟨rfl, rfl, rfl⟩ (Or.inr ⟨rfl, (Or.inl rfl)⟩) dX12_louvre_17
noncomputable def f_X12_types_2 (x0 : Nat) (x1 : Int32) : Nat → Int32 → zM → Option (Unit × zM)
  | 0, _, _ => none
  | n + 1, x2, M =>
    (if x2 < 0 then some ((), M) else z_rd (M.2.1 x0 3) fun a_2 => if z_ix (M.1 x0 4) (z_ln SH a_2) = true then zl (zu M.1 a_2 ((M.1 x0 4) : Int32).toNatClampNeg ((((x1 : Int32) >>> ((8 * x2) &&& 31)) : Int32).toInt8.toInt32 : Int32).toInt8.toInt32, M.2) fun M_4 => zl (zu M_4.1 x0 4 ((M_4.1 x0 4) + 1), M_4.2) fun M_5 => zl (x2 + (-1)) fun x2_6 => (f_X12_types_2 x0 x1 n x2_6 M_5) else none)
set_option maxHeartbeats 2000000 in
set_option maxRecDepth 20000 in
theorem t_X12_types_2 {l : Launch} {x0 : Nat} {x1 : Int32} {MO : zM} {v : Unit} (h0 : z_tm SH 11 x0) : ∀ (n : Nat) (x2 : Int32) (M : zM), f_X12_types_2 x0 x1 n x2 M = some (v, MO) → zA l yX12_types cX12_types 3 none 1 0 0 SH.length (zDv SH MO) 0 0 2 [(0, .ref x0), (1, .int x1), (2, .int x2)] [] SH M := by
  intro n
  induction n with
  | zero =>
    intro x2 M hf
    rw [f_X12_types_2] at hf
    cases hf
  | succ n ih =>
    intro x2 M hf
    rw [f_X12_types_2] at hf
    refine z_iload_n dX12_types_2 rfl rfl ?_
    refine z_if_lt (tgt := 38) dX12_types_3 (by decide) (fun q_1 => ?_) (fun q_1 => ?_)
    · have hf := (if_pos q_1).symm.trans hf
      obtain ⟨rfl, rfl⟩ := z_end hf
      exact z_vret ⟨rfl, rfl, rfl⟩ rfl dX12_types_38
    · have hf := (if_neg q_1).symm.trans hf
      refine z_aload_n dX12_types_6 rfl rfl ?_
      obtain ⟨a_2, ra_2, hf⟩ := z_rd_some hf
      refine zgR fl_X12_19 h0 (fun _ => rfl) ra_2 dX12_types_7 (fun ha_2 => ?_)
      refine z_aload_n dX12_types_10 rfl rfl ?_
      refine zgI fl_X12_115 h0 (fun _ => rfl) dX12_types_11 ?_
      refine z_iload_n dX12_types_14 rfl rfl ?_
      refine z_bipush (v := 8) dX12_types_15 (by decide) ?_
      refine z_iload_n dX12_types_17 rfl rfl ?_
      refine z_imul dX12_types_18 ?_
      refine z_ishr dX12_types_19 ?_
      refine z_i2b dX12_types_20 ?_
      obtain ⟨g_3, hf⟩ := z_ifs hf
      obtain ⟨M_4, eM_4, hf⟩ := zl_some hf
      refine z_bast ha_2 g_3 eM_4 dX12_types_21 ?_
      refine z_aload_n dX12_types_22 rfl rfl ?_
      refine z_aload_n dX12_types_23 rfl rfl ?_
      refine zgI fl_X12_115 h0 (fun _ => rfl) dX12_types_24 ?_
      refine z_iconst (v := 1) dX12_types_27 (by decide) ?_
      refine z_iadd dX12_types_28 ?_
      obtain ⟨M_5, eM_5, hf⟩ := zl_some hf
      refine zpI fl_X12_115 h0 rfl (Or.inl rfl) eM_5 dX12_types_29 ?_
      obtain ⟨x2_6, ex2_6, hf⟩ := zl_some hf
      refine z_iinc' (lv' := [(2, .int x2_6), (0, .ref x0), (1, .int x1)]) dX12_types_32 rfl (by decide) ex2_6 (by decide) rfl ?_
      refine z_goto (tgt := 2) dX12_types_35 (by decide) ?_
      refine zA.pick [(0, .ref x0), (1, .int x1), (2, .int x2_6)] [1, 2, 0] rfl ?_
      exact ih x2_6 M_5 hf
noncomputable def f_X12_types (x0 : Nat) (x1 : Int32) (M : zM) : Option (Unit × zM) :=
  (f_X12_types_2 x0 x1 zF 3 M)
set_option maxHeartbeats 2000000 in
set_option maxRecDepth 20000 in
theorem t_X12_types {l : Launch} {x0 : Nat} {x1 : Int32} {M MO : zM} {v : Unit} (h0 : z_tm SH 11 x0) (hf : f_X12_types x0 x1 M = some (v, MO)) : zMet l yX12_types cX12_types 3 none 1 0 0 [.ref x0, .int x1] SH M (zDv SH MO) := by
  refine zMet.of (by decide +kernel) (Nat.le_of_ble_eq_true rfl) (Or.inl rfl) ?_
  show zA l yX12_types cX12_types 3 none 1 0 0 SH.length (zDv SH MO) 0 0 0 [(0, .ref x0), (1, .int x1)] [] SH M
  unfold f_X12_types at hf
  refine z_iconst (v := 3) dX12_types_0 (by decide) ?_
  refine z_istore_n' (lv' := [(2, .int 3), (0, .ref x0), (1, .int x1)]) rfl dX12_types_1 (by decide) rfl rfl ?_
  refine zA.pick [(0, .ref x0), (1, .int x1), (2, .int 3)] [1, 2, 0] rfl ?_
  exact t_X12_types_2 h0 zF 3 M hf
noncomputable def f_X12_feed (x0 : Nat) (x1 : Int32) (x2 : Int32) (x3 : Int32) (x4 : Int32) (x5 : Int32) (M : zM) : Option (Int32 × zM) :=
  (if ((M.1 x0 4) + 20) ≤ 260 then z_call (f_X12_types x0 x1 M) fun v_2 M_3 => z_call (f_X12_types x0 x2 M_3) fun v_5 M_6 => z_call (f_X12_types x0 x3 M_6) fun v_8 M_9 => z_call (f_X12_types x0 x4 M_9) fun v_11 M_12 => z_call (f_X12_types x0 x5 M_12) fun v_14 M_15 => some ((M_15.1 x0 4), M_15) else some ((-1), M))
set_option maxHeartbeats 2000000 in
set_option maxRecDepth 20000 in
theorem t_X12_feed {l : Launch} {x0 : Nat} {x1 : Int32} {x2 : Int32} {x3 : Int32} {x4 : Int32} {x5 : Int32} {M MO : zM} {v : Int32} (h0 : z_tm SH 11 x0) (hf : f_X12_feed x0 x1 x2 x3 x4 x5 M = some (v, MO)) : zMet l yX12_feed cX12_feed 6 (some .int) 2 0 0 [.ref x0, .int x1, .int x2, .int x3, .int x4, .int x5] SH M (zDi SH v MO) := by
  refine zMet.of (by decide +kernel) (Nat.le_of_ble_eq_true rfl) (Or.inr (Or.inl rfl)) ?_
  show zA l yX12_feed cX12_feed 6 (some .int) 2 0 0 SH.length (zDi SH v MO) 0 0 0 [(0, .ref x0), (1, .int x1), (2, .int x2), (3, .int x3), (4, .int x4), (5, .int x5)] [] SH M
  unfold f_X12_feed at hf
  refine z_aload_n dX12_feed_0 rfl rfl ?_
  refine zgI fl_X12_115 h0 (fun _ => rfl) dX12_feed_1 ?_
  refine z_bipush (v := 20) dX12_feed_4 (by decide) ?_
  refine z_iadd dX12_feed_6 ?_
  refine z_sipush (v := 260) dX12_feed_7 (by decide) ?_
  refine z_icmp_le (tgt := 15) dX12_feed_10 (by decide) (fun q_1 => ?_) (fun q_1 => ?_)
  · have hf := (if_pos q_1).symm.trans hf
    refine z_aload_n dX12_feed_15 rfl rfl ?_
    refine z_iload_n dX12_feed_16 rfl rfl ?_
    obtain ⟨v_2, M_3, c_4, hf⟩ := z_call_some hf
    refine z_cVv (t_X12_types h0 c_4) kw_X12_types lk_X12_119 h0 rfl (by decide) rfl (Nat.le_of_ble_eq_true rfl) ⟨Nat.le_refl 0, Nat.le_refl 0⟩ dX12_feed_17 ?_
    refine z_aload_n dX12_feed_20 rfl rfl ?_
    refine z_iload_n dX12_feed_21 rfl rfl ?_
    obtain ⟨v_5, M_6, c_7, hf⟩ := z_call_some hf
    refine z_cVv (t_X12_types h0 c_7) kw_X12_types lk_X12_119 h0 rfl (by decide) rfl (Nat.le_of_ble_eq_true rfl) ⟨Nat.le_refl 0, Nat.le_refl 0⟩ dX12_feed_22 ?_
    refine z_aload_n dX12_feed_25 rfl rfl ?_
    refine z_iload_n dX12_feed_26 rfl rfl ?_
    obtain ⟨v_8, M_9, c_10, hf⟩ := z_call_some hf
    refine z_cVv (t_X12_types h0 c_10) kw_X12_types lk_X12_119 h0 rfl (by decide) rfl (Nat.le_of_ble_eq_true rfl) ⟨Nat.le_refl 0, Nat.le_refl 0⟩ dX12_feed_27 ?_
    refine z_aload_n dX12_feed_30 rfl rfl ?_
    refine z_iload dX12_feed_31 rfl ?_
    obtain ⟨v_11, M_12, c_13, hf⟩ := z_call_some hf
    refine z_cVv (t_X12_types h0 c_13) kw_X12_types lk_X12_119 h0 rfl (by decide) rfl (Nat.le_of_ble_eq_true rfl) ⟨Nat.le_refl 0, Nat.le_refl 0⟩ dX12_feed_33 ?_
    refine z_aload_n dX12_feed_36 rfl rfl ?_
    refine z_iload dX12_feed_37 rfl ?_
    obtain ⟨v_14, M_15, c_16, hf⟩ := z_call_some hf
    refine z_cVv (t_X12_types h0 c_16) kw_X12_types lk_X12_119 h0 rfl (by decide) rfl (Nat.le_of_ble_eq_true rfl) ⟨Nat.le_refl 0, Nat.le_refl 0⟩ dX12_feed_39 ?_
    refine z_aload_n dX12_feed_42 rfl rfl ?_
    refine zgI fl_X12_115 h0 (fun _ => rfl) dX12_feed_43 ?_
    obtain ⟨rfl, rfl⟩ := z_end hf
    exact z_iret ⟨rfl, rfl, rfl⟩ (Or.inl rfl) dX12_feed_46
  · have hf := (if_neg q_1).symm.trans hf
    refine z_iconst (v := (-1)) dX12_feed_13 (by decide) ?_
    obtain ⟨rfl, rfl⟩ := z_end hf
    exact z_iret ⟨rfl, rfl, rfl⟩ (Or.inl rfl) dX12_feed_14
noncomputable def f_X12_octet (x0 : Nat) (x1 : Int32) (M : zM) : Option (Int32 × zM) :=
  z_rd (M.2.1 x0 3) fun a_1 => if z_ix x1 (z_ln SH a_1) = true then some (((M.1 a_1 (x1 : Int32).toNatClampNeg) &&& 255), M) else none
set_option maxHeartbeats 2000000 in
set_option maxRecDepth 20000 in
theorem t_X12_octet {l : Launch} {x0 : Nat} {x1 : Int32} {M MO : zM} {v : Int32} (h0 : z_tm SH 11 x0) (hf : f_X12_octet x0 x1 M = some (v, MO)) : zMet l yX12_octet cX12_octet 2 (some .int) 1 0 0 [.ref x0, .int x1] SH M (zDi SH v MO) := by
  refine zMet.of (by decide +kernel) (Nat.le_of_ble_eq_true rfl) (Or.inr (Or.inl rfl)) ?_
  show zA l yX12_octet cX12_octet 2 (some .int) 1 0 0 SH.length (zDi SH v MO) 0 0 0 [(0, .ref x0), (1, .int x1)] [] SH M
  unfold f_X12_octet at hf
  refine z_aload_n dX12_octet_0 rfl rfl ?_
  obtain ⟨a_1, ra_1, hf⟩ := z_rd_some hf
  refine zgR fl_X12_19 h0 (fun _ => rfl) ra_1 dX12_octet_1 (fun ha_1 => ?_)
  refine z_iload_n dX12_octet_4 rfl rfl ?_
  obtain ⟨g_2, hf⟩ := z_ifs hf
  refine z_bald ha_1 g_2 rfl dX12_octet_5 ?_
  refine z_sipush (v := 255) dX12_octet_6 (by decide) ?_
  refine z_iand dX12_octet_9 ?_
  obtain ⟨rfl, rfl⟩ := z_end hf
  exact z_iret ⟨rfl, rfl, rfl⟩ (Or.inl rfl) dX12_octet_10
noncomputable def f_X12_here (x0 : Nat) (M : zM) : Option (Int32 × zM) :=
  (if (M.1 x0 6) ≤ (M.1 x0 5) then some ((-1), M) else z_rd (M.2.1 x0 3) fun a_2 => if z_ix (M.1 x0 5) (z_ln SH a_2) = true then some (((M.1 a_2 ((M.1 x0 5) : Int32).toNatClampNeg) &&& 255), M) else none)
set_option maxHeartbeats 2000000 in
set_option maxRecDepth 20000 in
theorem t_X12_here {l : Launch} {x0 : Nat} {M MO : zM} {v : Int32} (h0 : z_tm SH 11 x0) (hf : f_X12_here x0 M = some (v, MO)) : zMet l yX12_here cX12_here 1 (some .int) 1 0 0 [.ref x0] SH M (zDi SH v MO) := by
  refine zMet.of (by decide +kernel) (Nat.le_of_ble_eq_true rfl) (Or.inr (Or.inl rfl)) ?_
  show zA l yX12_here cX12_here 1 (some .int) 1 0 0 SH.length (zDi SH v MO) 0 0 0 [(0, .ref x0)] [] SH M
  unfold f_X12_here at hf
  refine z_aload_n dX12_here_0 rfl rfl ?_
  refine zgI fl_X12_123 h0 (fun _ => rfl) dX12_here_1 ?_
  refine z_aload_n dX12_here_4 rfl rfl ?_
  refine zgI fl_X12_126 h0 (fun _ => rfl) dX12_here_5 ?_
  refine z_icmp_ge (tgt := 27) dX12_here_8 (by decide) (fun q_1 => ?_) (fun q_1 => ?_)
  · have hf := (if_pos q_1).symm.trans hf
    refine z_iconst (v := (-1)) dX12_here_27 (by decide) ?_
    obtain ⟨rfl, rfl⟩ := z_end hf
    exact z_iret ⟨rfl, rfl, rfl⟩ (Or.inl rfl) dX12_here_28
  · have hf := (if_neg q_1).symm.trans hf
    refine z_aload_n dX12_here_11 rfl rfl ?_
    obtain ⟨a_2, ra_2, hf⟩ := z_rd_some hf
    refine zgR fl_X12_19 h0 (fun _ => rfl) ra_2 dX12_here_12 (fun ha_2 => ?_)
    refine z_aload_n dX12_here_15 rfl rfl ?_
    refine zgI fl_X12_123 h0 (fun _ => rfl) dX12_here_16 ?_
    obtain ⟨g_3, hf⟩ := z_ifs hf
    refine z_bald ha_2 g_3 rfl dX12_here_19 ?_
    refine z_sipush (v := 255) dX12_here_20 (by decide) ?_
    refine z_iand dX12_here_23 ?_
    refine z_goto (tgt := 28) dX12_here_24 (by decide) ?_
    obtain ⟨rfl, rfl⟩ := z_end hf
    exact z_iret ⟨rfl, rfl, rfl⟩ (Or.inl rfl) dX12_here_28
noncomputable def f_X12_isDigit (x0 : Nat) (M : zM) : Option (Int32 × zM) :=
  z_call (f_X12_here x0 M) fun v_1 M_2 => (if v_1 < 48 then some (0, M_2) else z_call (f_X12_here x0 M_2) fun v_5 M_6 => (if 57 < v_5 then some (0, M_6) else some (1, M_6)))
set_option maxHeartbeats 2000000 in
set_option maxRecDepth 20000 in
theorem t_X12_isDigit {l : Launch} {x0 : Nat} {M MO : zM} {v : Int32} (h0 : z_tm SH 11 x0) (hf : f_X12_isDigit x0 M = some (v, MO)) : zMet l yX12_isDigit cX12_isDigit 1 (some .boolean) 2 0 0 [.ref x0] SH M (zDi SH v MO) := by
  refine zMet.of (by decide +kernel) (Nat.le_of_ble_eq_true rfl) (Or.inr (Or.inr (Or.inl rfl))) ?_
  show zA l yX12_isDigit cX12_isDigit 1 (some .boolean) 2 0 0 SH.length (zDi SH v MO) 0 0 0 [(0, .ref x0)] [] SH M
  unfold f_X12_isDigit at hf
  refine z_aload_n dX12_isDigit_0 rfl rfl ?_
  obtain ⟨v_1, M_2, c_3, hf⟩ := z_call_some hf
  refine z_cVi (t_X12_here h0 c_3) kw_X12_here lk_X12_129 h0 rfl (by decide) rfl (Nat.le_of_ble_eq_true rfl) ⟨Nat.le_refl 0, Nat.le_refl 0⟩ dX12_isDigit_1 ?_
  refine z_bipush (v := 48) dX12_isDigit_4 (by decide) ?_
  refine z_icmp_lt (tgt := 22) dX12_isDigit_6 (by decide) (fun q_4 => ?_) (fun q_4 => ?_)
  · have hf := (if_pos q_4).symm.trans hf
    refine z_iconst (v := 0) dX12_isDigit_22 (by decide) ?_
    obtain ⟨rfl, rfl⟩ := z_end hf
    exact z_iret ⟨rfl, rfl, rfl⟩ (Or.inr ⟨rfl, (Or.inl rfl)⟩) dX12_isDigit_23
  · have hf := (if_neg q_4).symm.trans hf
    refine z_aload_n dX12_isDigit_9 rfl rfl ?_
    obtain ⟨v_5, M_6, c_7, hf⟩ := z_call_some hf
    refine z_cVi (t_X12_here h0 c_7) kw_X12_here lk_X12_129 h0 rfl (by decide) rfl (Nat.le_of_ble_eq_true rfl) ⟨Nat.le_refl 0, Nat.le_refl 0⟩ dX12_isDigit_10 ?_
    refine z_bipush (v := 57) dX12_isDigit_13 (by decide) ?_
    refine z_icmp_gt (tgt := 22) dX12_isDigit_15 (by decide) (fun q_8 => ?_) (fun q_8 => ?_)
    · have hf := (if_pos q_8).symm.trans hf
      refine z_iconst (v := 0) dX12_isDigit_22 (by decide) ?_
      obtain ⟨rfl, rfl⟩ := z_end hf
      exact z_iret ⟨rfl, rfl, rfl⟩ (Or.inr ⟨rfl, (Or.inl rfl)⟩) dX12_isDigit_23
    · have hf := (if_neg q_8).symm.trans hf
      refine z_iconst (v := 1) dX12_isDigit_18 (by decide) ?_
      refine z_goto (tgt := 23) dX12_isDigit_19 (by decide) ?_
      obtain ⟨rfl, rfl⟩ := z_end hf
      exact z_iret ⟨rfl, rfl, rfl⟩ (Or.inr ⟨rfl, (Or.inr rfl)⟩) dX12_isDigit_23
noncomputable def f_X12_wrongAt (x0 : Nat) (x1 : Int32) (x2 : Int32) (M : zM) : Option (Int32 × zM) :=
  zl (zu M.1 x0 7 (((-1000) * x1) - x2), M.2) fun M_1 => some (0, M_1)
set_option maxHeartbeats 2000000 in
set_option maxRecDepth 20000 in
theorem t_X12_wrongAt {l : Launch} {x0 : Nat} {x1 : Int32} {x2 : Int32} {M MO : zM} {v : Int32} (h0 : z_tm SH 11 x0) (hf : f_X12_wrongAt x0 x1 x2 M = some (v, MO)) : zMet l yX12_wrongAt cX12_wrongAt 3 (some .boolean) 1 0 0 [.ref x0, .int x1, .int x2] SH M (zDi SH v MO) := by
  refine zMet.of (by decide +kernel) (Nat.le_of_ble_eq_true rfl) (Or.inr (Or.inr (Or.inl rfl))) ?_
  show zA l yX12_wrongAt cX12_wrongAt 3 (some .boolean) 1 0 0 SH.length (zDi SH v MO) 0 0 0 [(0, .ref x0), (1, .int x1), (2, .int x2)] [] SH M
  unfold f_X12_wrongAt at hf
  refine z_aload_n dX12_wrongAt_0 rfl rfl ?_
  refine z_sipush (v := (-1000)) dX12_wrongAt_1 (by decide) ?_
  refine z_iload_n dX12_wrongAt_4 rfl rfl ?_
  refine z_imul dX12_wrongAt_5 ?_
  refine z_iload_n dX12_wrongAt_6 rfl rfl ?_
  refine z_isub dX12_wrongAt_7 ?_
  obtain ⟨M_1, eM_1, hf⟩ := zl_some hf
  refine zpI fl_X12_133 h0 rfl (Or.inl rfl) eM_1 dX12_wrongAt_8 ?_
  refine z_iconst (v := 0) dX12_wrongAt_11 (by decide) ?_
  obtain ⟨rfl, rfl⟩ := z_end hf
  exact z_iret ⟨rfl, rfl, rfl⟩ (Or.inr ⟨rfl, (Or.inl rfl)⟩) dX12_wrongAt_12
noncomputable def f_X12_takes (x0 : Nat) (x1 : Int32) (M : zM) : Option (Int32 × zM) :=
  z_call (f_X12_here x0 M) fun v_1 M_2 => (if v_1 = x1 then zl (zu M_2.1 x0 5 ((M_2.1 x0 5) + 1), M_2.2) fun M_5 => some (1, M_5) else z_call (f_X12_wrongAt x0 1 (M_2.1 x0 5) M_2) fun v_6 M_7 => if ((v_6 : Int32) = 0 ∨ (v_6 : Int32) = 1) then some (v_6, M_7) else none)
set_option maxHeartbeats 2000000 in
set_option maxRecDepth 20000 in
theorem t_X12_takes {l : Launch} {x0 : Nat} {x1 : Int32} {M MO : zM} {v : Int32} (h0 : z_tm SH 11 x0) (hf : f_X12_takes x0 x1 M = some (v, MO)) : zMet l yX12_takes cX12_takes 2 (some .boolean) 2 0 0 [.ref x0, .int x1] SH M (zDi SH v MO) := by
  refine zMet.of (by decide +kernel) (Nat.le_of_ble_eq_true rfl) (Or.inr (Or.inr (Or.inl rfl))) ?_
  show zA l yX12_takes cX12_takes 2 (some .boolean) 2 0 0 SH.length (zDi SH v MO) 0 0 0 [(0, .ref x0), (1, .int x1)] [] SH M
  unfold f_X12_takes at hf
  refine z_aload_n dX12_takes_0 rfl rfl ?_
  obtain ⟨v_1, M_2, c_3, hf⟩ := z_call_some hf
  refine z_cVi (t_X12_here h0 c_3) kw_X12_here lk_X12_129 h0 rfl (by decide) rfl (Nat.le_of_ble_eq_true rfl) ⟨Nat.le_refl 0, Nat.le_refl 0⟩ dX12_takes_1 ?_
  refine z_iload_n dX12_takes_4 rfl rfl ?_
  refine z_icmp_eq (tgt := 18) dX12_takes_5 (by decide) (fun q_4 => ?_) (fun q_4 => ?_)
  · have hf := (if_pos q_4).symm.trans hf
    refine z_aload_n dX12_takes_18 rfl rfl ?_
    refine z_aload_n dX12_takes_19 rfl rfl ?_
    refine zgI fl_X12_123 h0 (fun _ => rfl) dX12_takes_20 ?_
    refine z_iconst (v := 1) dX12_takes_23 (by decide) ?_
    refine z_iadd dX12_takes_24 ?_
    obtain ⟨M_5, eM_5, hf⟩ := zl_some hf
    refine zpI fl_X12_123 h0 rfl (Or.inl rfl) eM_5 dX12_takes_25 ?_
    refine z_iconst (v := 1) dX12_takes_28 (by decide) ?_
    obtain ⟨rfl, rfl⟩ := z_end hf
    exact z_iret ⟨rfl, rfl, rfl⟩ (Or.inr ⟨rfl, (Or.inr rfl)⟩) dX12_takes_29
  · have hf := (if_neg q_4).symm.trans hf
    refine z_aload_n dX12_takes_8 rfl rfl ?_
    refine z_iconst (v := 1) dX12_takes_9 (by decide) ?_
    refine z_aload_n dX12_takes_10 rfl rfl ?_
    refine zgI fl_X12_123 h0 (fun _ => rfl) dX12_takes_11 ?_
    obtain ⟨v_6, M_7, c_8, hf⟩ := z_call_some hf
    refine z_cVi (t_X12_wrongAt h0 c_8) kw_X12_wrongAt lk_X12_136 h0 rfl (by decide) rfl (Nat.le_of_ble_eq_true rfl) ⟨Nat.le_refl 0, Nat.le_refl 0⟩ dX12_takes_14 ?_
    obtain ⟨g_9, hf⟩ := z_ifs hf
    obtain ⟨rfl, rfl⟩ := z_end hf
    exact z_iret ⟨rfl, rfl, rfl⟩ (Or.inr ⟨rfl, g_9⟩) dX12_takes_17
noncomputable def f_X12_readsNumber_10 (x0 : Nat) : Nat → Int32 → zM → Option (Int32 × zM)
  | 0, _, _ => none
  | n + 1, x1, M =>
    z_call (f_X12_isDigit x0 M) fun v_1 M_2 => (if v_1 = 0 then some (1, M_2) else (if (M_2.1 x0 5) = (x1 + 5) then z_call (f_X12_wrongAt x0 2 (M_2.1 x0 5) M_2) fun v_11 M_12 => if ((v_11 : Int32) = 0 ∨ (v_11 : Int32) = 1) then some (v_11, M_12) else none else z_call (f_X12_here x0 M_2) fun v_6 M_7 => zl (zu M_7.1 x0 8 (((10 * (M_2.1 x0 8)) + v_6) - 48), M_7.2) fun M_9 => zl (zu M_9.1 x0 5 ((M_9.1 x0 5) + 1), M_9.2) fun M_10 => (f_X12_readsNumber_10 x0 n x1 M_10)))
set_option maxHeartbeats 2000000 in
set_option maxRecDepth 20000 in
theorem t_X12_readsNumber_10 {l : Launch} {x0 : Nat} {MO : zM} {v : Int32} (h0 : z_tm SH 11 x0) : ∀ (n : Nat) (x1 : Int32) (M : zM), f_X12_readsNumber_10 x0 n x1 M = some (v, MO) → zA l yX12_readsNumber cX12_readsNumber 2 (some .boolean) 3 0 0 SH.length (zDi SH v MO) 0 0 10 [(0, .ref x0), (1, .int x1)] [] SH M := by
  intro n
  induction n with
  | zero =>
    intro x1 M hf
    rw [f_X12_readsNumber_10] at hf
    cases hf
  | succ n ih =>
    intro x1 M hf
    rw [f_X12_readsNumber_10] at hf
    refine z_aload_n dX12_readsNumber_10 rfl rfl ?_
    obtain ⟨v_1, M_2, c_3, hf⟩ := z_call_some hf
    refine z_cVi (t_X12_isDigit h0 c_3) kw_X12_isDigit lk_X12_143 h0 rfl (by decide) rfl (Nat.le_of_ble_eq_true rfl) ⟨Nat.le_refl 0, Nat.le_refl 0⟩ dX12_readsNumber_11 ?_
    refine z_if_eq (tgt := 69) dX12_readsNumber_14 (by decide) (fun q_4 => ?_) (fun q_4 => ?_)
    · have hf := (if_pos q_4).symm.trans hf
      refine z_iconst (v := 1) dX12_readsNumber_69 (by decide) ?_
      obtain ⟨rfl, rfl⟩ := z_end hf
      exact z_iret ⟨rfl, rfl, rfl⟩ (Or.inr ⟨rfl, (Or.inr rfl)⟩) dX12_readsNumber_70
    · have hf := (if_neg q_4).symm.trans hf
      refine z_aload_n dX12_readsNumber_17 rfl rfl ?_
      refine zgI fl_X12_123 h0 (fun _ => rfl) dX12_readsNumber_18 ?_
      refine z_iload_n dX12_readsNumber_21 rfl rfl ?_
      refine z_iconst (v := 5) dX12_readsNumber_22 (by decide) ?_
      refine z_iadd dX12_readsNumber_23 ?_
      refine z_icmp_ne (tgt := 37) dX12_readsNumber_24 (by decide) (fun q_5 => ?_) (fun q_5 => ?_)
      · have hf := (if_neg q_5).symm.trans hf
        refine z_aload_n dX12_readsNumber_37 rfl rfl ?_
        refine z_bipush (v := 10) dX12_readsNumber_38 (by decide) ?_
        refine z_aload_n dX12_readsNumber_40 rfl rfl ?_
        refine zgI fl_X12_140 h0 (fun _ => rfl) dX12_readsNumber_41 ?_
        refine z_imul dX12_readsNumber_44 ?_
        refine z_aload_n dX12_readsNumber_45 rfl rfl ?_
        obtain ⟨v_6, M_7, c_8, hf⟩ := z_call_some hf
        refine z_cVi (t_X12_here h0 c_8) kw_X12_here lk_X12_129 h0 rfl (by decide) rfl (Nat.le_of_ble_eq_true rfl) ⟨Nat.le_refl 0, Nat.le_refl 0⟩ dX12_readsNumber_46 ?_
        refine z_iadd dX12_readsNumber_49 ?_
        refine z_bipush (v := 48) dX12_readsNumber_50 (by decide) ?_
        refine z_isub dX12_readsNumber_52 ?_
        obtain ⟨M_9, eM_9, hf⟩ := zl_some hf
        refine zpI fl_X12_140 h0 rfl (Or.inl rfl) eM_9 dX12_readsNumber_53 ?_
        refine z_aload_n dX12_readsNumber_56 rfl rfl ?_
        refine z_aload_n dX12_readsNumber_57 rfl rfl ?_
        refine zgI fl_X12_123 h0 (fun _ => rfl) dX12_readsNumber_58 ?_
        refine z_iconst (v := 1) dX12_readsNumber_61 (by decide) ?_
        refine z_iadd dX12_readsNumber_62 ?_
        obtain ⟨M_10, eM_10, hf⟩ := zl_some hf
        refine zpI fl_X12_123 h0 rfl (Or.inl rfl) eM_10 dX12_readsNumber_63 ?_
        refine z_goto (tgt := 10) dX12_readsNumber_66 (by decide) ?_
        exact ih x1 M_10 hf
      · have hf := (if_pos q_5).symm.trans hf
        refine z_aload_n dX12_readsNumber_27 rfl rfl ?_
        refine z_iconst (v := 2) dX12_readsNumber_28 (by decide) ?_
        refine z_aload_n dX12_readsNumber_29 rfl rfl ?_
        refine zgI fl_X12_123 h0 (fun _ => rfl) dX12_readsNumber_30 ?_
        obtain ⟨v_11, M_12, c_13, hf⟩ := z_call_some hf
        refine z_cVi (t_X12_wrongAt h0 c_13) kw_X12_wrongAt lk_X12_136 h0 rfl (by decide) rfl (Nat.le_of_ble_eq_true rfl) ⟨Nat.le_refl 0, Nat.le_refl 0⟩ dX12_readsNumber_33 ?_
        obtain ⟨g_14, hf⟩ := z_ifs hf
        obtain ⟨rfl, rfl⟩ := z_end hf
        exact z_iret ⟨rfl, rfl, rfl⟩ (Or.inr ⟨rfl, g_14⟩) dX12_readsNumber_36
noncomputable def f_X12_readsNumber (x0 : Nat) (M : zM) : Option (Int32 × zM) :=
  zl ((M.1 x0 5)) fun x1_1 => zl (zu M.1 x0 8 0, M.2) fun M_2 => (f_X12_readsNumber_10 x0 zF x1_1 M_2)
set_option maxHeartbeats 2000000 in
set_option maxRecDepth 20000 in
theorem t_X12_readsNumber {l : Launch} {x0 : Nat} {M MO : zM} {v : Int32} (h0 : z_tm SH 11 x0) (hf : f_X12_readsNumber x0 M = some (v, MO)) : zMet l yX12_readsNumber cX12_readsNumber 2 (some .boolean) 3 0 0 [.ref x0] SH M (zDi SH v MO) := by
  refine zMet.of (by decide +kernel) (Nat.le_of_ble_eq_true rfl) (Or.inr (Or.inr (Or.inl rfl))) ?_
  show zA l yX12_readsNumber cX12_readsNumber 2 (some .boolean) 3 0 0 SH.length (zDi SH v MO) 0 0 0 [(0, .ref x0)] [] SH M
  unfold f_X12_readsNumber at hf
  refine z_aload_n dX12_readsNumber_0 rfl rfl ?_
  refine zgI fl_X12_123 h0 (fun _ => rfl) dX12_readsNumber_1 ?_
  obtain ⟨x1_1, ex1_1, hf⟩ := zl_some hf
  refine z_istore_n' (lv' := [(1, .int x1_1), (0, .ref x0)]) rfl dX12_readsNumber_4 (by decide) ex1_1 rfl ?_
  refine z_aload_n dX12_readsNumber_5 rfl rfl ?_
  refine z_iconst (v := 0) dX12_readsNumber_6 (by decide) ?_
  obtain ⟨M_2, eM_2, hf⟩ := zl_some hf
  refine zpI fl_X12_140 h0 rfl (Or.inl rfl) eM_2 dX12_readsNumber_7 ?_
  refine zA.pick [(0, .ref x0), (1, .int x1_1)] [1, 0] rfl ?_
  exact t_X12_readsNumber_10 h0 zF x1_1 M_2 hf
noncomputable def f_X12_notes (x0 : Nat) (x1 : Int32) (x2 : Int32) (M : zM) : Option (Unit × zM) :=
  z_rd (M.2.1 x0 14) fun a_1 => if z_ix (M.1 x0 10) (z_ln SH a_1) = true then zl (zu M.1 a_1 ((M.1 x0 10) : Int32).toNatClampNeg ((1048576 * x1) + x2), M.2) fun M_3 => zl (zu M_3.1 x0 10 ((M_3.1 x0 10) + 1), M_3.2) fun M_4 => some ((), M_4) else none
set_option maxHeartbeats 2000000 in
set_option maxRecDepth 20000 in
theorem t_X12_notes {l : Launch} {x0 : Nat} {x1 : Int32} {x2 : Int32} {M MO : zM} {v : Unit} (h0 : z_tm SH 11 x0) (hf : f_X12_notes x0 x1 x2 M = some (v, MO)) : zMet l yX12_notes cX12_notes 3 none 1 0 0 [.ref x0, .int x1, .int x2] SH M (zDv SH MO) := by
  refine zMet.of (by decide +kernel) (Nat.le_of_ble_eq_true rfl) (Or.inl rfl) ?_
  show zA l yX12_notes cX12_notes 3 none 1 0 0 SH.length (zDv SH MO) 0 0 0 [(0, .ref x0), (1, .int x1), (2, .int x2)] [] SH M
  unfold f_X12_notes at hf
  refine z_aload_n dX12_notes_0 rfl rfl ?_
  obtain ⟨a_1, ra_1, hf⟩ := z_rd_some hf
  refine zgR fl_X12_23 h0 (fun _ => rfl) ra_1 dX12_notes_1 (fun ha_1 => ?_)
  refine z_aload_n dX12_notes_4 rfl rfl ?_
  refine zgI fl_X12_147 h0 (fun _ => rfl) dX12_notes_5 ?_
  refine z_ldc (v := 1048576) dX12_notes_8 cn_X12_150 ?_
  refine z_iload_n dX12_notes_10 rfl rfl ?_
  refine z_imul dX12_notes_11 ?_
  refine z_iload_n dX12_notes_12 rfl rfl ?_
  refine z_iadd dX12_notes_13 ?_
  obtain ⟨g_2, hf⟩ := z_ifs hf
  obtain ⟨M_3, eM_3, hf⟩ := zl_some hf
  refine z_iast ha_1 g_2 eM_3 dX12_notes_14 ?_
  refine z_aload_n dX12_notes_15 rfl rfl ?_
  refine z_aload_n dX12_notes_16 rfl rfl ?_
  refine zgI fl_X12_147 h0 (fun _ => rfl) dX12_notes_17 ?_
  refine z_iconst (v := 1) dX12_notes_20 (by decide) ?_
  refine z_iadd dX12_notes_21 ?_
  obtain ⟨M_4, eM_4, hf⟩ := zl_some hf
  refine zpI fl_X12_147 h0 rfl (Or.inl rfl) eM_4 dX12_notes_22 ?_
  obtain ⟨rfl, rfl⟩ := z_end hf
  exact z_vret ⟨rfl, rfl, rfl⟩ rfl dX12_notes_25
noncomputable def f_X12_opens (x0 : Nat) (x1 : Int32) (M : zM) : Option (Int32 × zM) :=
  (if (M.1 x0 9) = 6 then z_call (f_X12_wrongAt x0 5 (M.1 x0 5) M) fun v_8 M_9 => if ((v_8 : Int32) = 0 ∨ (v_8 : Int32) = 1) then some (v_8, M_9) else none else zl (zu M.1 x0 9 ((M.1 x0 9) + 1), M.2) fun M_2 => z_rd (M_2.2.1 x0 15) fun a_3 => if z_ix (M_2.1 x0 11) (z_ln SH a_3) = true then zl (zu M_2.1 a_3 ((M_2.1 x0 11) : Int32).toNatClampNeg (1048576 * x1), M_2.2) fun M_5 => zl (zu M_5.1 x0 11 ((M_5.1 x0 11) + 1), M_5.2) fun M_6 => zl (zu M_6.1 x0 5 ((M_6.1 x0 5) + 1), M_6.2) fun M_7 => some (1, M_7) else none)
set_option maxHeartbeats 2000000 in
set_option maxRecDepth 20000 in
theorem t_X12_opens {l : Launch} {x0 : Nat} {x1 : Int32} {M MO : zM} {v : Int32} (h0 : z_tm SH 11 x0) (hf : f_X12_opens x0 x1 M = some (v, MO)) : zMet l yX12_opens cX12_opens 2 (some .boolean) 2 0 0 [.ref x0, .int x1] SH M (zDi SH v MO) := by
  refine zMet.of (by decide +kernel) (Nat.le_of_ble_eq_true rfl) (Or.inr (Or.inr (Or.inl rfl))) ?_
  show zA l yX12_opens cX12_opens 2 (some .boolean) 2 0 0 SH.length (zDi SH v MO) 0 0 0 [(0, .ref x0), (1, .int x1)] [] SH M
  unfold f_X12_opens at hf
  refine z_aload_n dX12_opens_0 rfl rfl ?_
  refine zgI fl_X12_151 h0 (fun _ => rfl) dX12_opens_1 ?_
  refine z_bipush (v := 6) dX12_opens_4 (by decide) ?_
  refine z_icmp_ne (tgt := 19) dX12_opens_6 (by decide) (fun q_1 => ?_) (fun q_1 => ?_)
  · have hf := (if_neg q_1).symm.trans hf
    refine z_aload_n dX12_opens_19 rfl rfl ?_
    refine z_aload_n dX12_opens_20 rfl rfl ?_
    refine zgI fl_X12_151 h0 (fun _ => rfl) dX12_opens_21 ?_
    refine z_iconst (v := 1) dX12_opens_24 (by decide) ?_
    refine z_iadd dX12_opens_25 ?_
    obtain ⟨M_2, eM_2, hf⟩ := zl_some hf
    refine zpI fl_X12_151 h0 rfl (Or.inl rfl) eM_2 dX12_opens_26 ?_
    refine z_aload_n dX12_opens_29 rfl rfl ?_
    obtain ⟨a_3, ra_3, hf⟩ := z_rd_some hf
    refine zgR fl_X12_26 h0 (fun _ => rfl) ra_3 dX12_opens_30 (fun ha_3 => ?_)
    refine z_aload_n dX12_opens_33 rfl rfl ?_
    refine zgI fl_X12_154 h0 (fun _ => rfl) dX12_opens_34 ?_
    refine z_ldc (v := 1048576) dX12_opens_37 cn_X12_150 ?_
    refine z_iload_n dX12_opens_39 rfl rfl ?_
    refine z_imul dX12_opens_40 ?_
    obtain ⟨g_4, hf⟩ := z_ifs hf
    obtain ⟨M_5, eM_5, hf⟩ := zl_some hf
    refine z_iast ha_3 g_4 eM_5 dX12_opens_41 ?_
    refine z_aload_n dX12_opens_42 rfl rfl ?_
    refine z_aload_n dX12_opens_43 rfl rfl ?_
    refine zgI fl_X12_154 h0 (fun _ => rfl) dX12_opens_44 ?_
    refine z_iconst (v := 1) dX12_opens_47 (by decide) ?_
    refine z_iadd dX12_opens_48 ?_
    obtain ⟨M_6, eM_6, hf⟩ := zl_some hf
    refine zpI fl_X12_154 h0 rfl (Or.inl rfl) eM_6 dX12_opens_49 ?_
    refine z_aload_n dX12_opens_52 rfl rfl ?_
    refine z_aload_n dX12_opens_53 rfl rfl ?_
    refine zgI fl_X12_123 h0 (fun _ => rfl) dX12_opens_54 ?_
    refine z_iconst (v := 1) dX12_opens_57 (by decide) ?_
    refine z_iadd dX12_opens_58 ?_
    obtain ⟨M_7, eM_7, hf⟩ := zl_some hf
    refine zpI fl_X12_123 h0 rfl (Or.inl rfl) eM_7 dX12_opens_59 ?_
    refine z_iconst (v := 1) dX12_opens_62 (by decide) ?_
    obtain ⟨rfl, rfl⟩ := z_end hf
    exact z_iret ⟨rfl, rfl, rfl⟩ (Or.inr ⟨rfl, (Or.inr rfl)⟩) dX12_opens_63
  · have hf := (if_pos q_1).symm.trans hf
    refine z_aload_n dX12_opens_9 rfl rfl ?_
    refine z_iconst (v := 5) dX12_opens_10 (by decide) ?_
    refine z_aload_n dX12_opens_11 rfl rfl ?_
    refine zgI fl_X12_123 h0 (fun _ => rfl) dX12_opens_12 ?_
    obtain ⟨v_8, M_9, c_10, hf⟩ := z_call_some hf
    refine z_cVi (t_X12_wrongAt h0 c_10) kw_X12_wrongAt lk_X12_136 h0 rfl (by decide) rfl (Nat.le_of_ble_eq_true rfl) ⟨Nat.le_refl 0, Nat.le_refl 0⟩ dX12_opens_15 ?_
    obtain ⟨g_11, hf⟩ := z_ifs hf
    obtain ⟨rfl, rfl⟩ := z_end hf
    exact z_iret ⟨rfl, rfl, rfl⟩ (Or.inr ⟨rfl, g_11⟩) dX12_opens_18
noncomputable def f_X12_waitTop (x0 : Nat) (M : zM) : Option (Int32 × zM) :=
  (if (M.1 x0 11) = 0 then some ((-1), M) else z_rd (M.2.1 x0 15) fun a_2 => if z_ix ((M.1 x0 11) - 1) (z_ln SH a_2) = true then some (((M.1 a_2 (((M.1 x0 11) - 1) : Int32).toNatClampNeg) / 1048576), M) else none)
set_option maxHeartbeats 2000000 in
set_option maxRecDepth 20000 in
theorem t_X12_waitTop {l : Launch} {x0 : Nat} {M MO : zM} {v : Int32} (h0 : z_tm SH 11 x0) (hf : f_X12_waitTop x0 M = some (v, MO)) : zMet l yX12_waitTop cX12_waitTop 1 (some .int) 1 0 0 [.ref x0] SH M (zDi SH v MO) := by
  refine zMet.of (by decide +kernel) (Nat.le_of_ble_eq_true rfl) (Or.inr (Or.inl rfl)) ?_
  show zA l yX12_waitTop cX12_waitTop 1 (some .int) 1 0 0 SH.length (zDi SH v MO) 0 0 0 [(0, .ref x0)] [] SH M
  unfold f_X12_waitTop at hf
  refine z_aload_n dX12_waitTop_0 rfl rfl ?_
  refine zgI fl_X12_154 h0 (fun _ => rfl) dX12_waitTop_1 ?_
  refine z_if_ne (tgt := 11) dX12_waitTop_4 (by decide) (fun q_1 => ?_) (fun q_1 => ?_)
  · have hf := (if_neg q_1).symm.trans hf
    refine z_aload_n dX12_waitTop_11 rfl rfl ?_
    obtain ⟨a_2, ra_2, hf⟩ := z_rd_some hf
    refine zgR fl_X12_26 h0 (fun _ => rfl) ra_2 dX12_waitTop_12 (fun ha_2 => ?_)
    refine z_aload_n dX12_waitTop_15 rfl rfl ?_
    refine zgI fl_X12_154 h0 (fun _ => rfl) dX12_waitTop_16 ?_
    refine z_iconst (v := 1) dX12_waitTop_19 (by decide) ?_
    refine z_isub dX12_waitTop_20 ?_
    obtain ⟨g_3, hf⟩ := z_ifs hf
    refine z_iald ha_2 g_3 rfl dX12_waitTop_21 ?_
    refine z_ldc (v := 1048576) dX12_waitTop_22 cn_X12_150 ?_
    refine z_idiv dX12_waitTop_24 (by decide) ?_
    obtain ⟨rfl, rfl⟩ := z_end hf
    exact z_iret ⟨rfl, rfl, rfl⟩ (Or.inl rfl) dX12_waitTop_25
  · have hf := (if_pos q_1).symm.trans hf
    refine z_iconst (v := (-1)) dX12_waitTop_7 (by decide) ?_
    refine z_goto (tgt := 25) dX12_waitTop_8 (by decide) ?_
    obtain ⟨rfl, rfl⟩ := z_end hf
    exact z_iret ⟨rfl, rfl, rfl⟩ (Or.inl rfl) dX12_waitTop_25
noncomputable def f_X12_factOf (x0 : Int32) (M : zM) : Option (Int32 × zM) :=
  (if x0 = 97 then some (6, M) else if x0 = 102 then some (3, M) else if x0 = 103 then some (5, M) else if x0 = 104 then some (7, M) else if x0 = 112 then some (2, M) else if x0 = 114 then some (0, M) else if x0 = 115 then some (1, M) else if x0 = 119 then some (4, M) else some ((-1), M))
set_option maxHeartbeats 2000000 in
set_option maxRecDepth 20000 in
theorem t_X12_factOf {l : Launch} {x0 : Int32} {M MO : zM} {v : Int32} (hf : f_X12_factOf x0 M = some (v, MO)) : zMet l yX12_factOf cX12_factOf 1 (some .int) 1 0 0 [.int x0] SH M (zDi SH v MO) := by
  refine zMet.of (by decide +kernel) (Nat.le_of_ble_eq_true rfl) (Or.inr (Or.inl rfl)) ?_
  show zA l yX12_factOf cX12_factOf 1 (some .int) 1 0 0 SH.length (zDi SH v MO) 0 0 0 [(0, .int x0)] [] SH M
  unfold f_X12_factOf at hf
  refine z_iload_n dX12_factOf_0 rfl rfl ?_
  by_cases q_1 : x0 = 97
  · have hf := (if_pos q_1).symm.trans hf
    refine z_tabIn (tgt := 120) (off := 119) dX12_factOf_1 (by rw [q_1]; decide) (by rw [q_1]; decide) (by rw [q_1]; rfl) (by decide) ?_
    refine z_bipush (v := 6) dX12_factOf_120 (by decide) ?_
    obtain ⟨rfl, rfl⟩ := z_end hf
    exact z_iret ⟨rfl, rfl, rfl⟩ (Or.inl rfl) dX12_factOf_122
  have hf := (if_neg q_1).symm.trans hf
  by_cases q_2 : x0 = 102
  · have hf := (if_pos q_2).symm.trans hf
    refine z_tabIn (tgt := 114) (off := 113) dX12_factOf_1 (by rw [q_2]; decide) (by rw [q_2]; decide) (by rw [q_2]; rfl) (by decide) ?_
    refine z_iconst (v := 3) dX12_factOf_114 (by decide) ?_
    obtain ⟨rfl, rfl⟩ := z_end hf
    exact z_iret ⟨rfl, rfl, rfl⟩ (Or.inl rfl) dX12_factOf_115
  have hf := (if_neg q_2).symm.trans hf
  by_cases q_3 : x0 = 103
  · have hf := (if_pos q_3).symm.trans hf
    refine z_tabIn (tgt := 118) (off := 117) dX12_factOf_1 (by rw [q_3]; decide) (by rw [q_3]; decide) (by rw [q_3]; rfl) (by decide) ?_
    refine z_iconst (v := 5) dX12_factOf_118 (by decide) ?_
    obtain ⟨rfl, rfl⟩ := z_end hf
    exact z_iret ⟨rfl, rfl, rfl⟩ (Or.inl rfl) dX12_factOf_119
  have hf := (if_neg q_3).symm.trans hf
  by_cases q_4 : x0 = 104
  · have hf := (if_pos q_4).symm.trans hf
    refine z_tabIn (tgt := 123) (off := 122) dX12_factOf_1 (by rw [q_4]; decide) (by rw [q_4]; decide) (by rw [q_4]; rfl) (by decide) ?_
    refine z_bipush (v := 7) dX12_factOf_123 (by decide) ?_
    obtain ⟨rfl, rfl⟩ := z_end hf
    exact z_iret ⟨rfl, rfl, rfl⟩ (Or.inl rfl) dX12_factOf_125
  have hf := (if_neg q_4).symm.trans hf
  by_cases q_5 : x0 = 112
  · have hf := (if_pos q_5).symm.trans hf
    refine z_tabIn (tgt := 112) (off := 111) dX12_factOf_1 (by rw [q_5]; decide) (by rw [q_5]; decide) (by rw [q_5]; rfl) (by decide) ?_
    refine z_iconst (v := 2) dX12_factOf_112 (by decide) ?_
    obtain ⟨rfl, rfl⟩ := z_end hf
    exact z_iret ⟨rfl, rfl, rfl⟩ (Or.inl rfl) dX12_factOf_113
  have hf := (if_neg q_5).symm.trans hf
  by_cases q_6 : x0 = 114
  · have hf := (if_pos q_6).symm.trans hf
    refine z_tabIn (tgt := 108) (off := 107) dX12_factOf_1 (by rw [q_6]; decide) (by rw [q_6]; decide) (by rw [q_6]; rfl) (by decide) ?_
    refine z_iconst (v := 0) dX12_factOf_108 (by decide) ?_
    obtain ⟨rfl, rfl⟩ := z_end hf
    exact z_iret ⟨rfl, rfl, rfl⟩ (Or.inl rfl) dX12_factOf_109
  have hf := (if_neg q_6).symm.trans hf
  by_cases q_7 : x0 = 115
  · have hf := (if_pos q_7).symm.trans hf
    refine z_tabIn (tgt := 110) (off := 109) dX12_factOf_1 (by rw [q_7]; decide) (by rw [q_7]; decide) (by rw [q_7]; rfl) (by decide) ?_
    refine z_iconst (v := 1) dX12_factOf_110 (by decide) ?_
    obtain ⟨rfl, rfl⟩ := z_end hf
    exact z_iret ⟨rfl, rfl, rfl⟩ (Or.inl rfl) dX12_factOf_111
  have hf := (if_neg q_7).symm.trans hf
  by_cases q_8 : x0 = 119
  · have hf := (if_pos q_8).symm.trans hf
    refine z_tabIn (tgt := 116) (off := 115) dX12_factOf_1 (by rw [q_8]; decide) (by rw [q_8]; decide) (by rw [q_8]; rfl) (by decide) ?_
    refine z_iconst (v := 4) dX12_factOf_116 (by decide) ?_
    obtain ⟨rfl, rfl⟩ := z_end hf
    exact z_iret ⟨rfl, rfl, rfl⟩ (Or.inl rfl) dX12_factOf_117
  have hf := (if_neg q_8).symm.trans hf
  refine z_tabD (tgt := 126) dX12_factOf_1 [97, 102, 103, 104, 112, 114, 115, 119] (List.forall_mem_cons.mpr ⟨lv_neT q_1 (by decide), (List.forall_mem_cons.mpr ⟨lv_neT q_2 (by decide), (List.forall_mem_cons.mpr ⟨lv_neT q_3 (by decide), (List.forall_mem_cons.mpr ⟨lv_neT q_4 (by decide), (List.forall_mem_cons.mpr ⟨lv_neT q_5 (by decide), (List.forall_mem_cons.mpr ⟨lv_neT q_6 (by decide), (List.forall_mem_cons.mpr ⟨lv_neT q_7 (by decide), (List.forall_mem_cons.mpr ⟨lv_neT q_8 (by decide), (fun _ h => absurd h List.not_mem_nil)⟩)⟩)⟩)⟩)⟩)⟩)⟩)⟩) (by decide) (by decide) ?_
  refine z_iconst (v := (-1)) dX12_factOf_126 (by decide) ?_
  obtain ⟨rfl, rfl⟩ := z_end hf
  exact z_iret ⟨rfl, rfl, rfl⟩ (Or.inl rfl) dX12_factOf_127
noncomputable def f_X12_sumSign (x0 : Int32) (M : zM) : Option (Int32 × zM) :=
  (if x0 = 43 then some (2, M) else (if x0 = 45 then some (3, M) else (if x0 = 42 then some (4, M) else (if x0 = 47 then some (5, M) else (if x0 = 37 then some (6, M) else some ((-1), M))))))
set_option maxHeartbeats 2000000 in
set_option maxRecDepth 20000 in
theorem t_X12_sumSign {l : Launch} {x0 : Int32} {M MO : zM} {v : Int32} (hf : f_X12_sumSign x0 M = some (v, MO)) : zMet l yX12_sumSign cX12_sumSign 1 (some .int) 1 0 0 [.int x0] SH M (zDi SH v MO) := by
  refine zMet.of (by decide +kernel) (Nat.le_of_ble_eq_true rfl) (Or.inr (Or.inl rfl)) ?_
  show zA l yX12_sumSign cX12_sumSign 1 (some .int) 1 0 0 SH.length (zDi SH v MO) 0 0 0 [(0, .int x0)] [] SH M
  unfold f_X12_sumSign at hf
  refine z_iload_n dX12_sumSign_0 rfl rfl ?_
  refine z_bipush (v := 43) dX12_sumSign_1 (by decide) ?_
  refine z_icmp_ne (tgt := 10) dX12_sumSign_3 (by decide) (fun q_1 => ?_) (fun q_1 => ?_)
  · have hf := (if_neg q_1).symm.trans hf
    refine z_iload_n dX12_sumSign_10 rfl rfl ?_
    refine z_bipush (v := 45) dX12_sumSign_11 (by decide) ?_
    refine z_icmp_ne (tgt := 20) dX12_sumSign_13 (by decide) (fun q_2 => ?_) (fun q_2 => ?_)
    · have hf := (if_neg q_2).symm.trans hf
      refine z_iload_n dX12_sumSign_20 rfl rfl ?_
      refine z_bipush (v := 42) dX12_sumSign_21 (by decide) ?_
      refine z_icmp_ne (tgt := 30) dX12_sumSign_23 (by decide) (fun q_3 => ?_) (fun q_3 => ?_)
      · have hf := (if_neg q_3).symm.trans hf
        refine z_iload_n dX12_sumSign_30 rfl rfl ?_
        refine z_bipush (v := 47) dX12_sumSign_31 (by decide) ?_
        refine z_icmp_ne (tgt := 40) dX12_sumSign_33 (by decide) (fun q_4 => ?_) (fun q_4 => ?_)
        · have hf := (if_neg q_4).symm.trans hf
          refine z_iload_n dX12_sumSign_40 rfl rfl ?_
          refine z_bipush (v := 37) dX12_sumSign_41 (by decide) ?_
          refine z_icmp_ne (tgt := 51) dX12_sumSign_43 (by decide) (fun q_5 => ?_) (fun q_5 => ?_)
          · have hf := (if_neg q_5).symm.trans hf
            refine z_iconst (v := (-1)) dX12_sumSign_51 (by decide) ?_
            obtain ⟨rfl, rfl⟩ := z_end hf
            exact z_iret ⟨rfl, rfl, rfl⟩ (Or.inl rfl) dX12_sumSign_52
          · have hf := (if_pos q_5).symm.trans hf
            refine z_bipush (v := 6) dX12_sumSign_46 (by decide) ?_
            refine z_goto (tgt := 52) dX12_sumSign_48 (by decide) ?_
            obtain ⟨rfl, rfl⟩ := z_end hf
            exact z_iret ⟨rfl, rfl, rfl⟩ (Or.inl rfl) dX12_sumSign_52
        · have hf := (if_pos q_4).symm.trans hf
          refine z_iconst (v := 5) dX12_sumSign_36 (by decide) ?_
          refine z_goto (tgt := 52) dX12_sumSign_37 (by decide) ?_
          obtain ⟨rfl, rfl⟩ := z_end hf
          exact z_iret ⟨rfl, rfl, rfl⟩ (Or.inl rfl) dX12_sumSign_52
      · have hf := (if_pos q_3).symm.trans hf
        refine z_iconst (v := 4) dX12_sumSign_26 (by decide) ?_
        refine z_goto (tgt := 52) dX12_sumSign_27 (by decide) ?_
        obtain ⟨rfl, rfl⟩ := z_end hf
        exact z_iret ⟨rfl, rfl, rfl⟩ (Or.inl rfl) dX12_sumSign_52
    · have hf := (if_pos q_2).symm.trans hf
      refine z_iconst (v := 3) dX12_sumSign_16 (by decide) ?_
      refine z_goto (tgt := 52) dX12_sumSign_17 (by decide) ?_
      obtain ⟨rfl, rfl⟩ := z_end hf
      exact z_iret ⟨rfl, rfl, rfl⟩ (Or.inl rfl) dX12_sumSign_52
  · have hf := (if_pos q_1).symm.trans hf
    refine z_iconst (v := 2) dX12_sumSign_6 (by decide) ?_
    refine z_goto (tgt := 52) dX12_sumSign_7 (by decide) ?_
    obtain ⟨rfl, rfl⟩ := z_end hf
    exact z_iret ⟨rfl, rfl, rfl⟩ (Or.inl rfl) dX12_sumSign_52
noncomputable def f_X12_closesSums_37 (x0 : Nat) (x1 : Int32) (k0 : zM → Option (Unit × zM)) (M : zM) : Option (Unit × zM) :=
  z_call (f_X12_waitTop x0 M) fun v_1 M_2 => z_call (f_X12_notes x0 v_1 0 M_2) fun v_4 M_5 => zl (zu M_5.1 x0 11 ((M_5.1 x0 11) - 1), M_5.2) fun M_7 => (k0 M_7)
set_option maxHeartbeats 2000000 in
set_option maxRecDepth 20000 in
theorem t_X12_closesSums_37 {l : Launch} {x0 : Nat} {x1 : Int32} {k0 : zM → Option (Unit × zM)} {M MO : zM} {v : Unit} (h0 : z_tm SH 11 x0) (hk0 : ∀ (M : zM), k0 M = some (v, MO) → zA l yX12_closesSums cX12_closesSums 2 none 2 0 0 SH.length (zDv SH MO) 0 0 0 [(0, .ref x0), (1, .int x1)] [] SH M) (hf : f_X12_closesSums_37 x0 x1 k0 M = some (v, MO)) : zA l yX12_closesSums cX12_closesSums 2 none 2 0 0 SH.length (zDv SH MO) 0 0 37 [(0, .ref x0), (1, .int x1)] [] SH M := by
  unfold f_X12_closesSums_37 at hf
  refine z_aload_n dX12_closesSums_37 rfl rfl ?_
  refine z_aload_n dX12_closesSums_38 rfl rfl ?_
  obtain ⟨v_1, M_2, c_3, hf⟩ := z_call_some hf
  refine z_cVi (t_X12_waitTop h0 c_3) kw_X12_waitTop lk_X12_157 h0 rfl (by decide) rfl (Nat.le_of_ble_eq_true rfl) ⟨Nat.le_refl 0, Nat.le_refl 0⟩ dX12_closesSums_39 ?_
  refine z_iconst (v := 0) dX12_closesSums_42 (by decide) ?_
  obtain ⟨v_4, M_5, c_6, hf⟩ := z_call_some hf
  refine z_cVv (t_X12_notes h0 c_6) kw_X12_notes lk_X12_160 h0 rfl (by decide) rfl (Nat.le_of_ble_eq_true rfl) ⟨Nat.le_refl 0, Nat.le_refl 0⟩ dX12_closesSums_43 ?_
  refine z_aload_n dX12_closesSums_46 rfl rfl ?_
  refine z_aload_n dX12_closesSums_47 rfl rfl ?_
  refine zgI fl_X12_154 h0 (fun _ => rfl) dX12_closesSums_48 ?_
  refine z_iconst (v := 1) dX12_closesSums_51 (by decide) ?_
  refine z_isub dX12_closesSums_52 ?_
  obtain ⟨M_7, eM_7, hf⟩ := zl_some hf
  refine zpI fl_X12_154 h0 rfl (Or.inl rfl) eM_7 dX12_closesSums_53 ?_
  refine z_goto (tgt := 0) dX12_closesSums_56 (by decide) ?_
  exact hk0 M_7 hf
noncomputable def f_X12_closesSums_17 (x0 : Nat) (x1 : Int32) (k0 : zM → Option (Unit × zM)) (M : zM) : Option (Unit × zM) :=
  (if x1 = 0 then some ((), M) else z_call (f_X12_waitTop x0 M) fun v_2 M_3 => (if v_2 = 2 then (f_X12_closesSums_37 x0 x1 k0 M_3) else z_call (f_X12_waitTop x0 M_3) fun v_6 M_7 => (if v_6 = 3 then (f_X12_closesSums_37 x0 x1 k0 M_7) else some ((), M_7))))
set_option maxHeartbeats 2000000 in
set_option maxRecDepth 20000 in
theorem t_X12_closesSums_17 {l : Launch} {x0 : Nat} {x1 : Int32} {k0 : zM → Option (Unit × zM)} {M MO : zM} {v : Unit} (h0 : z_tm SH 11 x0) (hk0 : ∀ (M : zM), k0 M = some (v, MO) → zA l yX12_closesSums cX12_closesSums 2 none 2 0 0 SH.length (zDv SH MO) 0 0 0 [(0, .ref x0), (1, .int x1)] [] SH M) (hf : f_X12_closesSums_17 x0 x1 k0 M = some (v, MO)) : zA l yX12_closesSums cX12_closesSums 2 none 2 0 0 SH.length (zDv SH MO) 0 0 17 [(0, .ref x0), (1, .int x1)] [] SH M := by
  unfold f_X12_closesSums_17 at hf
  refine z_iload_n dX12_closesSums_17 rfl rfl ?_
  refine z_if_eq (tgt := 59) dX12_closesSums_18 (by decide) (fun q_1 => ?_) (fun q_1 => ?_)
  · have hf := (if_pos q_1).symm.trans hf
    obtain ⟨rfl, rfl⟩ := z_end hf
    exact z_vret ⟨rfl, rfl, rfl⟩ rfl dX12_closesSums_59
  · have hf := (if_neg q_1).symm.trans hf
    refine z_aload_n dX12_closesSums_21 rfl rfl ?_
    obtain ⟨v_2, M_3, c_4, hf⟩ := z_call_some hf
    refine z_cVi (t_X12_waitTop h0 c_4) kw_X12_waitTop lk_X12_157 h0 rfl (by decide) rfl (Nat.le_of_ble_eq_true rfl) ⟨Nat.le_refl 0, Nat.le_refl 0⟩ dX12_closesSums_22 ?_
    refine z_iconst (v := 2) dX12_closesSums_25 (by decide) ?_
    refine z_icmp_eq (tgt := 37) dX12_closesSums_26 (by decide) (fun q_5 => ?_) (fun q_5 => ?_)
    · have hf := (if_pos q_5).symm.trans hf
      exact t_X12_closesSums_37 h0 hk0 hf
    · have hf := (if_neg q_5).symm.trans hf
      refine z_aload_n dX12_closesSums_29 rfl rfl ?_
      obtain ⟨v_6, M_7, c_8, hf⟩ := z_call_some hf
      refine z_cVi (t_X12_waitTop h0 c_8) kw_X12_waitTop lk_X12_157 h0 rfl (by decide) rfl (Nat.le_of_ble_eq_true rfl) ⟨Nat.le_refl 0, Nat.le_refl 0⟩ dX12_closesSums_30 ?_
      refine z_iconst (v := 3) dX12_closesSums_33 (by decide) ?_
      refine z_icmp_ne (tgt := 59) dX12_closesSums_34 (by decide) (fun q_9 => ?_) (fun q_9 => ?_)
      · have hf := (if_neg q_9).symm.trans hf
        obtain ⟨rfl, rfl⟩ := z_end hf
        exact z_vret ⟨rfl, rfl, rfl⟩ rfl dX12_closesSums_59
      · have hf := (if_pos q_9).symm.trans hf
        exact t_X12_closesSums_37 h0 hk0 hf
noncomputable def f_X12_closesSums_0 (x0 : Nat) (x1 : Int32) : Nat → zM → Option (Unit × zM)
  | 0, _ => none
  | n + 1, M =>
    z_call (f_X12_waitTop x0 M) fun v_1 M_2 => (if v_1 < 4 then (f_X12_closesSums_17 x0 x1 (f_X12_closesSums_0 x0 x1 n) M_2) else z_call (f_X12_waitTop x0 M_2) fun v_5 M_6 => (if v_5 ≤ 6 then (f_X12_closesSums_37 x0 x1 (f_X12_closesSums_0 x0 x1 n) M_6) else (f_X12_closesSums_17 x0 x1 (f_X12_closesSums_0 x0 x1 n) M_6)))
set_option maxHeartbeats 2000000 in
set_option maxRecDepth 20000 in
theorem t_X12_closesSums_0 {l : Launch} {x0 : Nat} {x1 : Int32} {MO : zM} {v : Unit} (h0 : z_tm SH 11 x0) : ∀ (n : Nat) (M : zM), f_X12_closesSums_0 x0 x1 n M = some (v, MO) → zA l yX12_closesSums cX12_closesSums 2 none 2 0 0 SH.length (zDv SH MO) 0 0 0 [(0, .ref x0), (1, .int x1)] [] SH M := by
  intro n
  induction n with
  | zero =>
    intro M hf
    rw [f_X12_closesSums_0] at hf
    cases hf
  | succ n ih =>
    intro M hf
    rw [f_X12_closesSums_0] at hf
    refine z_aload_n dX12_closesSums_0 rfl rfl ?_
    obtain ⟨v_1, M_2, c_3, hf⟩ := z_call_some hf
    refine z_cVi (t_X12_waitTop h0 c_3) kw_X12_waitTop lk_X12_157 h0 rfl (by decide) rfl (Nat.le_of_ble_eq_true rfl) ⟨Nat.le_refl 0, Nat.le_refl 0⟩ dX12_closesSums_1 ?_
    refine z_iconst (v := 4) dX12_closesSums_4 (by decide) ?_
    refine z_icmp_lt (tgt := 17) dX12_closesSums_5 (by decide) (fun q_4 => ?_) (fun q_4 => ?_)
    · have hf := (if_pos q_4).symm.trans hf
      exact t_X12_closesSums_17 h0 ih hf
    · have hf := (if_neg q_4).symm.trans hf
      refine z_aload_n dX12_closesSums_8 rfl rfl ?_
      obtain ⟨v_5, M_6, c_7, hf⟩ := z_call_some hf
      refine z_cVi (t_X12_waitTop h0 c_7) kw_X12_waitTop lk_X12_157 h0 rfl (by decide) rfl (Nat.le_of_ble_eq_true rfl) ⟨Nat.le_refl 0, Nat.le_refl 0⟩ dX12_closesSums_9 ?_
      refine z_bipush (v := 6) dX12_closesSums_12 (by decide) ?_
      refine z_icmp_le (tgt := 37) dX12_closesSums_14 (by decide) (fun q_8 => ?_) (fun q_8 => ?_)
      · have hf := (if_pos q_8).symm.trans hf
        exact t_X12_closesSums_37 h0 ih hf
      · have hf := (if_neg q_8).symm.trans hf
        exact t_X12_closesSums_17 h0 ih hf
noncomputable def f_X12_closesSums (x0 : Nat) (x1 : Int32) (M : zM) : Option (Unit × zM) :=
  (f_X12_closesSums_0 x0 x1 zF M)
set_option maxHeartbeats 2000000 in
set_option maxRecDepth 20000 in
theorem t_X12_closesSums {l : Launch} {x0 : Nat} {x1 : Int32} {M MO : zM} {v : Unit} (h0 : z_tm SH 11 x0) (hf : f_X12_closesSums x0 x1 M = some (v, MO)) : zMet l yX12_closesSums cX12_closesSums 2 none 2 0 0 [.ref x0, .int x1] SH M (zDv SH MO) := by
  refine zMet.of (by decide +kernel) (Nat.le_of_ble_eq_true rfl) (Or.inl rfl) ?_
  show zA l yX12_closesSums cX12_closesSums 2 none 2 0 0 SH.length (zDv SH MO) 0 0 0 [(0, .ref x0), (1, .int x1)] [] SH M
  unfold f_X12_closesSums at hf
  exact t_X12_closesSums_0 h0 zF M hf
noncomputable def f_X12_readsFactor_0 (x0 : Nat) : Nat → zM → Option (Int32 × zM)
  | 0, _ => none
  | n + 1, M =>
    z_call (f_X12_here x0 M) fun v_1 M_2 => (if v_1 = 91 then z_call (f_X12_opens x0 14 M_2) fun v_31 M_32 => (if v_31 = 0 then some (0, M_32) else (f_X12_readsFactor_0 x0 n M_32)) else z_call (f_X12_isDigit x0 M_2) fun v_5 M_6 => (if v_5 = 0 then z_call (f_X12_here x0 M_6) fun v_9 M_10 => z_call (f_X12_factOf v_9 M_10) fun v_12 M_13 => (if v_12 = (-1) then z_call (f_X12_wrongAt x0 1 (M_13.1 x0 5) M_13) fun v_20 M_21 => if ((v_20 : Int32) = 0 ∨ (v_20 : Int32) = 1) then some (v_20, M_21) else none else z_call (f_X12_notes x0 1 v_12 M_13) fun v_16 M_17 => zl (zu M_17.1 x0 5 ((M_17.1 x0 5) + 1), M_17.2) fun M_19 => some (1, M_19)) else z_call (f_X12_readsNumber x0 M_6) fun v_24 M_25 => (if v_24 = 0 then some (0, M_25) else z_call (f_X12_notes x0 0 (M_25.1 x0 8) M_25) fun v_28 M_29 => some (1, M_29))))
set_option maxHeartbeats 2000000 in
set_option maxRecDepth 20000 in
theorem t_X12_readsFactor_0 {l : Launch} {x0 : Nat} {MO : zM} {v : Int32} (h0 : z_tm SH 11 x0) : ∀ (n : Nat) (M : zM), f_X12_readsFactor_0 x0 n M = some (v, MO) → zA l yX12_readsFactor cX12_readsFactor 2 (some .boolean) 4 0 0 SH.length (zDi SH v MO) 0 0 0 [(0, .ref x0)] [] SH M := by
  intro n
  induction n with
  | zero =>
    intro M hf
    rw [f_X12_readsFactor_0] at hf
    cases hf
  | succ n ih =>
    intro M hf
    rw [f_X12_readsFactor_0] at hf
    refine z_aload_n dX12_readsFactor_0 rfl rfl ?_
    obtain ⟨v_1, M_2, c_3, hf⟩ := z_call_some hf
    refine z_cVi (t_X12_here h0 c_3) kw_X12_here lk_X12_129 h0 rfl (by decide) rfl (Nat.le_of_ble_eq_true rfl) ⟨Nat.le_refl 0, Nat.le_refl 0⟩ dX12_readsFactor_1 ?_
    refine z_bipush (v := 91) dX12_readsFactor_4 (by decide) ?_
    refine z_icmp_ne (tgt := 20) dX12_readsFactor_6 (by decide) (fun q_4 => ?_) (fun q_4 => ?_)
    · have hf := (if_neg q_4).symm.trans hf
      refine z_aload_n dX12_readsFactor_20 rfl rfl ?_
      obtain ⟨v_5, M_6, c_7, hf⟩ := z_call_some hf
      refine z_cVi (t_X12_isDigit h0 c_7) kw_X12_isDigit lk_X12_143 h0 rfl (by decide) rfl (Nat.le_of_ble_eq_true rfl) ⟨Nat.le_refl 0, Nat.le_refl 0⟩ dX12_readsFactor_21 ?_
      refine z_if_eq (tgt := 47) dX12_readsFactor_24 (by decide) (fun q_8 => ?_) (fun q_8 => ?_)
      · have hf := (if_pos q_8).symm.trans hf
        refine z_aload_n dX12_readsFactor_47 rfl rfl ?_
        obtain ⟨v_9, M_10, c_11, hf⟩ := z_call_some hf
        refine z_cVi (t_X12_here h0 c_11) kw_X12_here lk_X12_129 h0 rfl (by decide) rfl (Nat.le_of_ble_eq_true rfl) ⟨Nat.le_refl 0, Nat.le_refl 0⟩ dX12_readsFactor_48 ?_
        obtain ⟨v_12, M_13, c_14, hf⟩ := z_call_some hf
        refine z_cSi (t_X12_factOf  c_14) kw_X12_factOf lk_X12_170 rfl (by decide) rfl (Nat.le_of_ble_eq_true rfl) ⟨Nat.le_refl 0, Nat.le_refl 0⟩ dX12_readsFactor_51 ?_
        refine z_istore_n' (lv' := [(1, .int v_12), (0, .ref x0)]) rfl dX12_readsFactor_54 (by decide) rfl rfl ?_
        refine z_iload_n dX12_readsFactor_55 rfl rfl ?_
        refine z_iconst (v := (-1)) dX12_readsFactor_56 (by decide) ?_
        refine z_icmp_ne (tgt := 70) dX12_readsFactor_57 (by decide) (fun q_15 => ?_) (fun q_15 => ?_)
        · have hf := (if_neg q_15).symm.trans hf
          refine z_aload_n dX12_readsFactor_70 rfl rfl ?_
          refine z_iconst (v := 1) dX12_readsFactor_71 (by decide) ?_
          refine z_iload_n dX12_readsFactor_72 rfl rfl ?_
          obtain ⟨v_16, M_17, c_18, hf⟩ := z_call_some hf
          refine z_cVv (t_X12_notes h0 c_18) kw_X12_notes lk_X12_160 h0 rfl (by decide) rfl (Nat.le_of_ble_eq_true rfl) ⟨Nat.le_refl 0, Nat.le_refl 0⟩ dX12_readsFactor_73 ?_
          refine z_aload_n dX12_readsFactor_76 rfl rfl ?_
          refine z_aload_n dX12_readsFactor_77 rfl rfl ?_
          refine zgI fl_X12_123 h0 (fun _ => rfl) dX12_readsFactor_78 ?_
          refine z_iconst (v := 1) dX12_readsFactor_81 (by decide) ?_
          refine z_iadd dX12_readsFactor_82 ?_
          obtain ⟨M_19, eM_19, hf⟩ := zl_some hf
          refine zpI fl_X12_123 h0 rfl (Or.inl rfl) eM_19 dX12_readsFactor_83 ?_
          refine z_iconst (v := 1) dX12_readsFactor_86 (by decide) ?_
          obtain ⟨rfl, rfl⟩ := z_end hf
          exact z_iret ⟨rfl, rfl, rfl⟩ (Or.inr ⟨rfl, (Or.inr rfl)⟩) dX12_readsFactor_87
        · have hf := (if_pos q_15).symm.trans hf
          refine z_aload_n dX12_readsFactor_60 rfl rfl ?_
          refine z_iconst (v := 1) dX12_readsFactor_61 (by decide) ?_
          refine z_aload_n dX12_readsFactor_62 rfl rfl ?_
          refine zgI fl_X12_123 h0 (fun _ => rfl) dX12_readsFactor_63 ?_
          obtain ⟨v_20, M_21, c_22, hf⟩ := z_call_some hf
          refine z_cVi (t_X12_wrongAt h0 c_22) kw_X12_wrongAt lk_X12_136 h0 rfl (by decide) rfl (Nat.le_of_ble_eq_true rfl) ⟨Nat.le_refl 0, Nat.le_refl 0⟩ dX12_readsFactor_66 ?_
          obtain ⟨g_23, hf⟩ := z_ifs hf
          obtain ⟨rfl, rfl⟩ := z_end hf
          exact z_iret ⟨rfl, rfl, rfl⟩ (Or.inr ⟨rfl, g_23⟩) dX12_readsFactor_69
      · have hf := (if_neg q_8).symm.trans hf
        refine z_aload_n dX12_readsFactor_27 rfl rfl ?_
        obtain ⟨v_24, M_25, c_26, hf⟩ := z_call_some hf
        refine z_cVi (t_X12_readsNumber h0 c_26) kw_X12_readsNumber lk_X12_167 h0 rfl (by decide) rfl (Nat.le_of_ble_eq_true rfl) ⟨Nat.le_refl 0, Nat.le_refl 0⟩ dX12_readsFactor_28 ?_
        refine z_if_ne (tgt := 36) dX12_readsFactor_31 (by decide) (fun q_27 => ?_) (fun q_27 => ?_)
        · have hf := (if_neg q_27).symm.trans hf
          refine z_aload_n dX12_readsFactor_36 rfl rfl ?_
          refine z_iconst (v := 0) dX12_readsFactor_37 (by decide) ?_
          refine z_aload_n dX12_readsFactor_38 rfl rfl ?_
          refine zgI fl_X12_140 h0 (fun _ => rfl) dX12_readsFactor_39 ?_
          obtain ⟨v_28, M_29, c_30, hf⟩ := z_call_some hf
          refine z_cVv (t_X12_notes h0 c_30) kw_X12_notes lk_X12_160 h0 rfl (by decide) rfl (Nat.le_of_ble_eq_true rfl) ⟨Nat.le_refl 0, Nat.le_refl 0⟩ dX12_readsFactor_42 ?_
          refine z_iconst (v := 1) dX12_readsFactor_45 (by decide) ?_
          obtain ⟨rfl, rfl⟩ := z_end hf
          exact z_iret ⟨rfl, rfl, rfl⟩ (Or.inr ⟨rfl, (Or.inr rfl)⟩) dX12_readsFactor_46
        · have hf := (if_pos q_27).symm.trans hf
          refine z_iconst (v := 0) dX12_readsFactor_34 (by decide) ?_
          obtain ⟨rfl, rfl⟩ := z_end hf
          exact z_iret ⟨rfl, rfl, rfl⟩ (Or.inr ⟨rfl, (Or.inl rfl)⟩) dX12_readsFactor_35
    · have hf := (if_pos q_4).symm.trans hf
      refine z_aload_n dX12_readsFactor_9 rfl rfl ?_
      refine z_bipush (v := 14) dX12_readsFactor_10 (by decide) ?_
      obtain ⟨v_31, M_32, c_33, hf⟩ := z_call_some hf
      refine z_cVi (t_X12_opens h0 c_33) kw_X12_opens lk_X12_164 h0 rfl (by decide) rfl (Nat.le_of_ble_eq_true rfl) ⟨Nat.le_refl 0, Nat.le_refl 0⟩ dX12_readsFactor_12 ?_
      refine z_if_ne (tgt := 0) dX12_readsFactor_15 (by decide) (fun q_34 => ?_) (fun q_34 => ?_)
      · have hf := (if_neg q_34).symm.trans hf
        exact ih M_32 hf
      · have hf := (if_pos q_34).symm.trans hf
        refine z_iconst (v := 0) dX12_readsFactor_18 (by decide) ?_
        obtain ⟨rfl, rfl⟩ := z_end hf
        exact z_iret ⟨rfl, rfl, rfl⟩ (Or.inr ⟨rfl, (Or.inl rfl)⟩) dX12_readsFactor_19
noncomputable def f_X12_readsFactor (x0 : Nat) (M : zM) : Option (Int32 × zM) :=
  (f_X12_readsFactor_0 x0 zF M)
set_option maxHeartbeats 2000000 in
set_option maxRecDepth 20000 in
theorem t_X12_readsFactor {l : Launch} {x0 : Nat} {M MO : zM} {v : Int32} (h0 : z_tm SH 11 x0) (hf : f_X12_readsFactor x0 M = some (v, MO)) : zMet l yX12_readsFactor cX12_readsFactor 2 (some .boolean) 4 0 0 [.ref x0] SH M (zDi SH v MO) := by
  refine zMet.of (by decide +kernel) (Nat.le_of_ble_eq_true rfl) (Or.inr (Or.inr (Or.inl rfl))) ?_
  show zA l yX12_readsFactor cX12_readsFactor 2 (some .boolean) 4 0 0 SH.length (zDi SH v MO) 0 0 0 [(0, .ref x0)] [] SH M
  unfold f_X12_readsFactor at hf
  exact t_X12_readsFactor_0 h0 zF M hf
noncomputable def f_X12_hasOpenSum_2 (x0 : Nat) : Nat → Int32 → zM → Option (Int32 × zM)
  | 0, _, _ => none
  | n + 1, x2, M =>
    (if (M.1 x0 11) ≤ x2 then some (0, M) else z_rd (M.2.1 x0 15) fun a_2 => if z_ix x2 (z_ln SH a_2) = true then (if ((M.1 a_2 (x2 : Int32).toNatClampNeg) / 1048576) = 14 then some (1, M) else zl (x2 + 1) fun x2_5 => (f_X12_hasOpenSum_2 x0 n x2_5 M)) else none)
set_option maxHeartbeats 2000000 in
set_option maxRecDepth 20000 in
theorem t_X12_hasOpenSum_2 {l : Launch} {x0 : Nat} {MO : zM} {v : Int32} (h0 : z_tm SH 11 x0) : ∀ (n : Nat) (x2 : Int32) (M : zM), f_X12_hasOpenSum_2 x0 n x2 M = some (v, MO) → zA l yX12_hasOpenSum cX12_hasOpenSum 3 (some .boolean) 1 0 0 SH.length (zDi SH v MO) 0 0 2 [(0, .ref x0), (2, .int x2)] [] SH M := by
  intro n
  induction n with
  | zero =>
    intro x2 M hf
    rw [f_X12_hasOpenSum_2] at hf
    cases hf
  | succ n ih =>
    intro x2 M hf
    rw [f_X12_hasOpenSum_2] at hf
    refine z_iload_n dX12_hasOpenSum_2 rfl rfl ?_
    refine z_aload_n dX12_hasOpenSum_3 rfl rfl ?_
    refine zgI fl_X12_154 h0 (fun _ => rfl) dX12_hasOpenSum_4 ?_
    refine z_icmp_ge (tgt := 32) dX12_hasOpenSum_7 (by decide) (fun q_1 => ?_) (fun q_1 => ?_)
    · have hf := (if_pos q_1).symm.trans hf
      refine z_iconst (v := 0) dX12_hasOpenSum_32 (by decide) ?_
      obtain ⟨rfl, rfl⟩ := z_end hf
      exact z_iret ⟨rfl, rfl, rfl⟩ (Or.inr ⟨rfl, (Or.inl rfl)⟩) dX12_hasOpenSum_33
    · have hf := (if_neg q_1).symm.trans hf
      refine z_aload_n dX12_hasOpenSum_10 rfl rfl ?_
      obtain ⟨a_2, ra_2, hf⟩ := z_rd_some hf
      refine zgR fl_X12_26 h0 (fun _ => rfl) ra_2 dX12_hasOpenSum_11 (fun ha_2 => ?_)
      refine z_iload_n dX12_hasOpenSum_14 rfl rfl ?_
      obtain ⟨g_3, hf⟩ := z_ifs hf
      refine z_iald ha_2 g_3 rfl dX12_hasOpenSum_15 ?_
      refine z_ldc (v := 1048576) dX12_hasOpenSum_16 cn_X12_150 ?_
      refine z_idiv dX12_hasOpenSum_18 (by decide) ?_
      refine z_bipush (v := 14) dX12_hasOpenSum_19 (by decide) ?_
      refine z_icmp_ne (tgt := 26) dX12_hasOpenSum_21 (by decide) (fun q_4 => ?_) (fun q_4 => ?_)
      · have hf := (if_neg q_4).symm.trans hf
        obtain ⟨x2_5, ex2_5, hf⟩ := zl_some hf
        refine z_iinc' (lv' := [(2, .int x2_5), (0, .ref x0)]) dX12_hasOpenSum_26 rfl (by decide) ex2_5 (by decide) rfl ?_
        refine z_goto (tgt := 2) dX12_hasOpenSum_29 (by decide) ?_
        refine zA.pick [(0, .ref x0), (2, .int x2_5)] [1, 0] rfl ?_
        exact ih x2_5 M hf
      · have hf := (if_pos q_4).symm.trans hf
        refine z_iconst (v := 1) dX12_hasOpenSum_24 (by decide) ?_
        obtain ⟨rfl, rfl⟩ := z_end hf
        exact z_iret ⟨rfl, rfl, rfl⟩ (Or.inr ⟨rfl, (Or.inr rfl)⟩) dX12_hasOpenSum_25
noncomputable def f_X12_hasOpenSum (x0 : Nat) (x1 : Int32) (M : zM) : Option (Int32 × zM) :=
  (f_X12_hasOpenSum_2 x0 zF x1 M)
set_option maxHeartbeats 2000000 in
set_option maxRecDepth 20000 in
theorem t_X12_hasOpenSum {l : Launch} {x0 : Nat} {x1 : Int32} {M MO : zM} {v : Int32} (h0 : z_tm SH 11 x0) (hf : f_X12_hasOpenSum x0 x1 M = some (v, MO)) : zMet l yX12_hasOpenSum cX12_hasOpenSum 3 (some .boolean) 1 0 0 [.ref x0, .int x1] SH M (zDi SH v MO) := by
  refine zMet.of (by decide +kernel) (Nat.le_of_ble_eq_true rfl) (Or.inr (Or.inr (Or.inl rfl))) ?_
  show zA l yX12_hasOpenSum cX12_hasOpenSum 3 (some .boolean) 1 0 0 SH.length (zDi SH v MO) 0 0 0 [(0, .ref x0), (1, .int x1)] [] SH M
  unfold f_X12_hasOpenSum at hf
  refine z_iload_n dX12_hasOpenSum_0 rfl rfl ?_
  refine z_istore_n' (lv' := [(2, .int x1), (0, .ref x0), (1, .int x1)]) rfl dX12_hasOpenSum_1 (by decide) rfl rfl ?_
  refine zA.pick [(0, .ref x0), (2, .int x1)] [1, 0] rfl ?_
  exact t_X12_hasOpenSum_2 h0 zF x1 M hf
noncomputable def f_X12_readsSum_138 (x0 : Nat) (x1 : Int32) (M : zM) : Option (Int32 × zM) :=
  z_call (f_X12_hasOpenSum x0 x1 M) fun v_1 M_2 => (if v_1 = 0 then z_call (f_X12_closesSums x0 1 M_2) fun v_5 M_6 => some (1, M_6) else z_call (f_X12_wrongAt x0 1 (M_2.1 x0 5) M_2) fun v_8 M_9 => if ((v_8 : Int32) = 0 ∨ (v_8 : Int32) = 1) then some (v_8, M_9) else none)
set_option maxHeartbeats 2000000 in
set_option maxRecDepth 20000 in
theorem t_X12_readsSum_138 {l : Launch} {x0 : Nat} {x1 : Int32} {M MO : zM} {v : Int32} (h0 : z_tm SH 11 x0) (hf : f_X12_readsSum_138 x0 x1 M = some (v, MO)) : zA l yX12_readsSum cX12_readsSum 3 (some .boolean) 5 0 0 SH.length (zDi SH v MO) 0 0 138 [(0, .ref x0), (1, .int x1)] [] SH M := by
  unfold f_X12_readsSum_138 at hf
  refine z_aload_n dX12_readsSum_138 rfl rfl ?_
  refine z_iload_n dX12_readsSum_139 rfl rfl ?_
  obtain ⟨v_1, M_2, c_3, hf⟩ := z_call_some hf
  refine z_cVi (t_X12_hasOpenSum h0 c_3) kw_X12_hasOpenSum lk_X12_184 h0 rfl (by decide) rfl (Nat.le_of_ble_eq_true rfl) ⟨Nat.le_refl 0, Nat.le_refl 0⟩ dX12_readsSum_140 ?_
  refine z_if_eq (tgt := 156) dX12_readsSum_143 (by decide) (fun q_4 => ?_) (fun q_4 => ?_)
  · have hf := (if_pos q_4).symm.trans hf
    refine z_aload_n dX12_readsSum_156 rfl rfl ?_
    refine z_iconst (v := 1) dX12_readsSum_157 (by decide) ?_
    obtain ⟨v_5, M_6, c_7, hf⟩ := z_call_some hf
    refine z_cVv (t_X12_closesSums h0 c_7) kw_X12_closesSums lk_X12_180 h0 rfl (by decide) rfl (Nat.le_of_ble_eq_true rfl) ⟨Nat.le_refl 0, Nat.le_refl 0⟩ dX12_readsSum_158 ?_
    refine z_iconst (v := 1) dX12_readsSum_161 (by decide) ?_
    obtain ⟨rfl, rfl⟩ := z_end hf
    exact z_iret ⟨rfl, rfl, rfl⟩ (Or.inr ⟨rfl, (Or.inr rfl)⟩) dX12_readsSum_162
  · have hf := (if_neg q_4).symm.trans hf
    refine z_aload_n dX12_readsSum_146 rfl rfl ?_
    refine z_iconst (v := 1) dX12_readsSum_147 (by decide) ?_
    refine z_aload_n dX12_readsSum_148 rfl rfl ?_
    refine zgI fl_X12_123 h0 (fun _ => rfl) dX12_readsSum_149 ?_
    obtain ⟨v_8, M_9, c_10, hf⟩ := z_call_some hf
    refine z_cVi (t_X12_wrongAt h0 c_10) kw_X12_wrongAt lk_X12_136 h0 rfl (by decide) rfl (Nat.le_of_ble_eq_true rfl) ⟨Nat.le_refl 0, Nat.le_refl 0⟩ dX12_readsSum_152 ?_
    obtain ⟨g_11, hf⟩ := z_ifs hf
    obtain ⟨rfl, rfl⟩ := z_end hf
    exact z_iret ⟨rfl, rfl, rfl⟩ (Or.inr ⟨rfl, g_11⟩) dX12_readsSum_155
noncomputable def f_X12_readsSum_163 (x0 : Nat) (k14 : Int32 → zM → Option (Int32 × zM)) (x1 : Int32) (M : zM) : Option (Int32 × zM) :=
  (k14 x1 M)
set_option maxHeartbeats 2000000 in
set_option maxRecDepth 20000 in
theorem t_X12_readsSum_163 {l : Launch} {x0 : Nat} {k14 : Int32 → zM → Option (Int32 × zM)} {x1 : Int32} {M MO : zM} {v : Int32} (h0 : z_tm SH 11 x0) (hk14 : ∀ (x1 : Int32) (M : zM), k14 x1 M = some (v, MO) → zA l yX12_readsSum cX12_readsSum 3 (some .boolean) 5 0 0 SH.length (zDi SH v MO) 0 0 14 [(0, .ref x0), (1, .int x1)] [] SH M) (hf : f_X12_readsSum_163 x0 k14 x1 M = some (v, MO)) : zA l yX12_readsSum cX12_readsSum 3 (some .boolean) 5 0 0 SH.length (zDi SH v MO) 0 0 163 [(0, .ref x0), (1, .int x1)] [] SH M := by
  unfold f_X12_readsSum_163 at hf
  refine z_goto (tgt := 14) dX12_readsSum_163 (by decide) ?_
  exact hk14 x1 M hf
noncomputable def f_X12_readsSum_38 (x0 : Nat) (k14 : Int32 → zM → Option (Int32 × zM)) (x1 : Int32) (x2 : Int32) (s0 : Nat) (s1 : Int32) (M : zM) : Option (Int32 × zM) :=
  z_call (f_X12_closesSums s0 s1 M) fun v_1 M_2 => z_rd (M_2.2.1 x0 15) fun a_4 => if z_ix (M_2.1 x0 11) (z_ln SH a_4) = true then zl (zu M_2.1 a_4 ((M_2.1 x0 11) : Int32).toNatClampNeg (1048576 * x2), M_2.2) fun M_6 => zl (zu M_6.1 x0 11 ((M_6.1 x0 11) + 1), M_6.2) fun M_7 => zl (zu M_7.1 x0 5 ((M_7.1 x0 5) + 1), M_7.2) fun M_8 => z_call (f_X12_readsFactor x0 M_8) fun v_9 M_10 => (if v_9 = 0 then some (0, M_10) else (f_X12_readsSum_163 x0 k14 x1 M_10)) else none
set_option maxHeartbeats 2000000 in
set_option maxRecDepth 20000 in
theorem t_X12_readsSum_38 {l : Launch} {x0 : Nat} {k14 : Int32 → zM → Option (Int32 × zM)} {x1 : Int32} {x2 : Int32} {s0 : Nat} {s1 : Int32} {M MO : zM} {v : Int32} (h0 : z_tm SH 11 x0) (hk14 : ∀ (x1 : Int32) (M : zM), k14 x1 M = some (v, MO) → zA l yX12_readsSum cX12_readsSum 3 (some .boolean) 5 0 0 SH.length (zDi SH v MO) 0 0 14 [(0, .ref x0), (1, .int x1)] [] SH M) (hs0 : z_tm SH 11 s0) (hf : f_X12_readsSum_38 x0 k14 x1 x2 s0 s1 M = some (v, MO)) : zA l yX12_readsSum cX12_readsSum 3 (some .boolean) 5 0 0 SH.length (zDi SH v MO) 0 0 38 [(0, .ref x0), (1, .int x1), (2, .int x2)] [.int s1, .ref s0] SH M := by
  unfold f_X12_readsSum_38 at hf
  obtain ⟨v_1, M_2, c_3, hf⟩ := z_call_some hf
  refine z_cVv (t_X12_closesSums hs0 c_3) kw_X12_closesSums lk_X12_180 hs0 rfl (by decide) rfl (Nat.le_of_ble_eq_true rfl) ⟨Nat.le_refl 0, Nat.le_refl 0⟩ dX12_readsSum_38 ?_
  refine z_aload_n dX12_readsSum_41 rfl rfl ?_
  obtain ⟨a_4, ra_4, hf⟩ := z_rd_some hf
  refine zgR fl_X12_26 h0 (fun _ => rfl) ra_4 dX12_readsSum_42 (fun ha_4 => ?_)
  refine z_aload_n dX12_readsSum_45 rfl rfl ?_
  refine zgI fl_X12_154 h0 (fun _ => rfl) dX12_readsSum_46 ?_
  refine z_ldc (v := 1048576) dX12_readsSum_49 cn_X12_150 ?_
  refine z_iload_n dX12_readsSum_51 rfl rfl ?_
  refine z_imul dX12_readsSum_52 ?_
  obtain ⟨g_5, hf⟩ := z_ifs hf
  obtain ⟨M_6, eM_6, hf⟩ := zl_some hf
  refine z_iast ha_4 g_5 eM_6 dX12_readsSum_53 ?_
  refine z_aload_n dX12_readsSum_54 rfl rfl ?_
  refine z_aload_n dX12_readsSum_55 rfl rfl ?_
  refine zgI fl_X12_154 h0 (fun _ => rfl) dX12_readsSum_56 ?_
  refine z_iconst (v := 1) dX12_readsSum_59 (by decide) ?_
  refine z_iadd dX12_readsSum_60 ?_
  obtain ⟨M_7, eM_7, hf⟩ := zl_some hf
  refine zpI fl_X12_154 h0 rfl (Or.inl rfl) eM_7 dX12_readsSum_61 ?_
  refine z_aload_n dX12_readsSum_64 rfl rfl ?_
  refine z_aload_n dX12_readsSum_65 rfl rfl ?_
  refine zgI fl_X12_123 h0 (fun _ => rfl) dX12_readsSum_66 ?_
  refine z_iconst (v := 1) dX12_readsSum_69 (by decide) ?_
  refine z_iadd dX12_readsSum_70 ?_
  obtain ⟨M_8, eM_8, hf⟩ := zl_some hf
  refine zpI fl_X12_123 h0 rfl (Or.inl rfl) eM_8 dX12_readsSum_71 ?_
  refine z_aload_n dX12_readsSum_74 rfl rfl ?_
  obtain ⟨v_9, M_10, c_11, hf⟩ := z_call_some hf
  refine z_cVi (t_X12_readsFactor h0 c_11) kw_X12_readsFactor lk_X12_174 h0 rfl (by decide) rfl (Nat.le_of_ble_eq_true rfl) ⟨Nat.le_refl 0, Nat.le_refl 0⟩ dX12_readsSum_75 ?_
  refine z_if_ne (tgt := 163) dX12_readsSum_78 (by decide) (fun q_12 => ?_) (fun q_12 => ?_)
  · have hf := (if_neg q_12).symm.trans hf
    refine zA.pick [(0, .ref x0), (1, .int x1)] [0, 1] rfl ?_
    exact t_X12_readsSum_163 h0 hk14 hf
  · have hf := (if_pos q_12).symm.trans hf
    refine z_iconst (v := 0) dX12_readsSum_81 (by decide) ?_
    obtain ⟨rfl, rfl⟩ := z_end hf
    exact z_iret ⟨rfl, rfl, rfl⟩ (Or.inr ⟨rfl, (Or.inl rfl)⟩) dX12_readsSum_82
noncomputable def f_X12_readsSum_14 (x0 : Nat) : Nat → Int32 → zM → Option (Int32 × zM)
  | 0, _, _ => none
  | n + 1, x1, M =>
    z_call (f_X12_here x0 M) fun v_1 M_2 => z_call (f_X12_sumSign v_1 M_2) fun v_4 M_5 => (if v_4 = (-1) then z_call (f_X12_here x0 M_5) fun v_8 M_9 => (if v_8 = 93 then z_call (f_X12_hasOpenSum x0 x1 M_9) fun v_12 M_13 => (if v_12 = 0 then (f_X12_readsSum_138 x0 x1 M_13) else z_call (f_X12_closesSums x0 1 M_13) fun v_16 M_17 => zl (zu M_17.1 x0 11 ((M_17.1 x0 11) - 1), M_17.2) fun M_19 => zl (zu M_19.1 x0 9 ((M_19.1 x0 9) - 1), M_19.2) fun M_20 => zl (zu M_20.1 x0 5 ((M_20.1 x0 5) + 1), M_20.2) fun M_21 => (f_X12_readsSum_163 x0 (f_X12_readsSum_14 x0 n) x1 M_21)) else (f_X12_readsSum_138 x0 x1 M_9)) else (if 4 ≤ v_4 then (f_X12_readsSum_38 x0 (f_X12_readsSum_14 x0 n) x1 v_4 x0 0 M_5) else (f_X12_readsSum_38 x0 (f_X12_readsSum_14 x0 n) x1 v_4 x0 1 M_5)))
set_option maxHeartbeats 2000000 in
set_option maxRecDepth 20000 in
theorem t_X12_readsSum_14 {l : Launch} {x0 : Nat} {MO : zM} {v : Int32} (h0 : z_tm SH 11 x0) : ∀ (n : Nat) (x1 : Int32) (M : zM), f_X12_readsSum_14 x0 n x1 M = some (v, MO) → zA l yX12_readsSum cX12_readsSum 3 (some .boolean) 5 0 0 SH.length (zDi SH v MO) 0 0 14 [(0, .ref x0), (1, .int x1)] [] SH M := by
  intro n
  induction n with
  | zero =>
    intro x1 M hf
    rw [f_X12_readsSum_14] at hf
    cases hf
  | succ n ih =>
    intro x1 M hf
    rw [f_X12_readsSum_14] at hf
    refine z_aload_n dX12_readsSum_14 rfl rfl ?_
    obtain ⟨v_1, M_2, c_3, hf⟩ := z_call_some hf
    refine z_cVi (t_X12_here h0 c_3) kw_X12_here lk_X12_129 h0 rfl (by decide) rfl (Nat.le_of_ble_eq_true rfl) ⟨Nat.le_refl 0, Nat.le_refl 0⟩ dX12_readsSum_15 ?_
    obtain ⟨v_4, M_5, c_6, hf⟩ := z_call_some hf
    refine z_cSi (t_X12_sumSign  c_6) kw_X12_sumSign lk_X12_177 rfl (by decide) rfl (Nat.le_of_ble_eq_true rfl) ⟨Nat.le_refl 0, Nat.le_refl 0⟩ dX12_readsSum_18 ?_
    refine z_istore_n' (lv' := [(2, .int v_4), (0, .ref x0), (1, .int x1)]) rfl dX12_readsSum_21 (by decide) rfl rfl ?_
    refine z_iload_n dX12_readsSum_22 rfl rfl ?_
    refine z_iconst (v := (-1)) dX12_readsSum_23 (by decide) ?_
    refine z_icmp_eq (tgt := 83) dX12_readsSum_24 (by decide) (fun q_7 => ?_) (fun q_7 => ?_)
    · have hf := (if_pos q_7).symm.trans hf
      refine z_aload_n dX12_readsSum_83 rfl rfl ?_
      obtain ⟨v_8, M_9, c_10, hf⟩ := z_call_some hf
      refine z_cVi (t_X12_here h0 c_10) kw_X12_here lk_X12_129 h0 rfl (by decide) rfl (Nat.le_of_ble_eq_true rfl) ⟨Nat.le_refl 0, Nat.le_refl 0⟩ dX12_readsSum_84 ?_
      refine z_bipush (v := 93) dX12_readsSum_87 (by decide) ?_
      refine z_icmp_ne (tgt := 138) dX12_readsSum_89 (by decide) (fun q_11 => ?_) (fun q_11 => ?_)
      · have hf := (if_neg q_11).symm.trans hf
        refine zA.pick [(0, .ref x0), (1, .int x1)] [1, 2] rfl ?_
        exact t_X12_readsSum_138 h0 hf
      · have hf := (if_pos q_11).symm.trans hf
        refine z_aload_n dX12_readsSum_92 rfl rfl ?_
        refine z_iload_n dX12_readsSum_93 rfl rfl ?_
        obtain ⟨v_12, M_13, c_14, hf⟩ := z_call_some hf
        refine z_cVi (t_X12_hasOpenSum h0 c_14) kw_X12_hasOpenSum lk_X12_184 h0 rfl (by decide) rfl (Nat.le_of_ble_eq_true rfl) ⟨Nat.le_refl 0, Nat.le_refl 0⟩ dX12_readsSum_94 ?_
        refine z_if_eq (tgt := 138) dX12_readsSum_97 (by decide) (fun q_15 => ?_) (fun q_15 => ?_)
        · have hf := (if_pos q_15).symm.trans hf
          refine zA.pick [(0, .ref x0), (1, .int x1)] [1, 2] rfl ?_
          exact t_X12_readsSum_138 h0 hf
        · have hf := (if_neg q_15).symm.trans hf
          refine z_aload_n dX12_readsSum_100 rfl rfl ?_
          refine z_iconst (v := 1) dX12_readsSum_101 (by decide) ?_
          obtain ⟨v_16, M_17, c_18, hf⟩ := z_call_some hf
          refine z_cVv (t_X12_closesSums h0 c_18) kw_X12_closesSums lk_X12_180 h0 rfl (by decide) rfl (Nat.le_of_ble_eq_true rfl) ⟨Nat.le_refl 0, Nat.le_refl 0⟩ dX12_readsSum_102 ?_
          refine z_aload_n dX12_readsSum_105 rfl rfl ?_
          refine z_aload_n dX12_readsSum_106 rfl rfl ?_
          refine zgI fl_X12_154 h0 (fun _ => rfl) dX12_readsSum_107 ?_
          refine z_iconst (v := 1) dX12_readsSum_110 (by decide) ?_
          refine z_isub dX12_readsSum_111 ?_
          obtain ⟨M_19, eM_19, hf⟩ := zl_some hf
          refine zpI fl_X12_154 h0 rfl (Or.inl rfl) eM_19 dX12_readsSum_112 ?_
          refine z_aload_n dX12_readsSum_115 rfl rfl ?_
          refine z_aload_n dX12_readsSum_116 rfl rfl ?_
          refine zgI fl_X12_151 h0 (fun _ => rfl) dX12_readsSum_117 ?_
          refine z_iconst (v := 1) dX12_readsSum_120 (by decide) ?_
          refine z_isub dX12_readsSum_121 ?_
          obtain ⟨M_20, eM_20, hf⟩ := zl_some hf
          refine zpI fl_X12_151 h0 rfl (Or.inl rfl) eM_20 dX12_readsSum_122 ?_
          refine z_aload_n dX12_readsSum_125 rfl rfl ?_
          refine z_aload_n dX12_readsSum_126 rfl rfl ?_
          refine zgI fl_X12_123 h0 (fun _ => rfl) dX12_readsSum_127 ?_
          refine z_iconst (v := 1) dX12_readsSum_130 (by decide) ?_
          refine z_iadd dX12_readsSum_131 ?_
          obtain ⟨M_21, eM_21, hf⟩ := zl_some hf
          refine zpI fl_X12_123 h0 rfl (Or.inl rfl) eM_21 dX12_readsSum_132 ?_
          refine z_goto (tgt := 163) dX12_readsSum_135 (by decide) ?_
          refine zA.pick [(0, .ref x0), (1, .int x1)] [1, 2] rfl ?_
          exact t_X12_readsSum_163 h0 ih hf
    · have hf := (if_neg q_7).symm.trans hf
      refine z_aload_n dX12_readsSum_27 rfl rfl ?_
      refine z_iload_n dX12_readsSum_28 rfl rfl ?_
      refine z_iconst (v := 4) dX12_readsSum_29 (by decide) ?_
      refine z_icmp_ge (tgt := 37) dX12_readsSum_30 (by decide) (fun q_22 => ?_) (fun q_22 => ?_)
      · have hf := (if_pos q_22).symm.trans hf
        refine z_iconst (v := 0) dX12_readsSum_37 (by decide) ?_
        refine zA.pick [(0, .ref x0), (1, .int x1), (2, .int v_4)] [1, 2, 0] rfl ?_
        exact t_X12_readsSum_38 h0 ih h0 hf
      · have hf := (if_neg q_22).symm.trans hf
        refine z_iconst (v := 1) dX12_readsSum_33 (by decide) ?_
        refine z_goto (tgt := 38) dX12_readsSum_34 (by decide) ?_
        refine zA.pick [(0, .ref x0), (1, .int x1), (2, .int v_4)] [1, 2, 0] rfl ?_
        exact t_X12_readsSum_38 h0 ih h0 hf
noncomputable def f_X12_readsSum (x0 : Nat) (M : zM) : Option (Int32 × zM) :=
  zl ((M.1 x0 11)) fun x1_1 => z_call (f_X12_readsFactor x0 M) fun v_2 M_3 => (if v_2 = 0 then some (0, M_3) else (f_X12_readsSum_14 x0 zF x1_1 M_3))
set_option maxHeartbeats 2000000 in
set_option maxRecDepth 20000 in
theorem t_X12_readsSum {l : Launch} {x0 : Nat} {M MO : zM} {v : Int32} (h0 : z_tm SH 11 x0) (hf : f_X12_readsSum x0 M = some (v, MO)) : zMet l yX12_readsSum cX12_readsSum 3 (some .boolean) 5 0 0 [.ref x0] SH M (zDi SH v MO) := by
  refine zMet.of (by decide +kernel) (Nat.le_of_ble_eq_true rfl) (Or.inr (Or.inr (Or.inl rfl))) ?_
  show zA l yX12_readsSum cX12_readsSum 3 (some .boolean) 5 0 0 SH.length (zDi SH v MO) 0 0 0 [(0, .ref x0)] [] SH M
  unfold f_X12_readsSum at hf
  refine z_aload_n dX12_readsSum_0 rfl rfl ?_
  refine zgI fl_X12_154 h0 (fun _ => rfl) dX12_readsSum_1 ?_
  obtain ⟨x1_1, ex1_1, hf⟩ := zl_some hf
  refine z_istore_n' (lv' := [(1, .int x1_1), (0, .ref x0)]) rfl dX12_readsSum_4 (by decide) ex1_1 rfl ?_
  refine z_aload_n dX12_readsSum_5 rfl rfl ?_
  obtain ⟨v_2, M_3, c_4, hf⟩ := z_call_some hf
  refine z_cVi (t_X12_readsFactor h0 c_4) kw_X12_readsFactor lk_X12_174 h0 rfl (by decide) rfl (Nat.le_of_ble_eq_true rfl) ⟨Nat.le_refl 0, Nat.le_refl 0⟩ dX12_readsSum_6 ?_
  refine z_if_ne (tgt := 14) dX12_readsSum_9 (by decide) (fun q_5 => ?_) (fun q_5 => ?_)
  · have hf := (if_neg q_5).symm.trans hf
    refine zA.pick [(0, .ref x0), (1, .int x1_1)] [1, 0] rfl ?_
    exact t_X12_readsSum_14 h0 zF x1_1 M_3 hf
  · have hf := (if_pos q_5).symm.trans hf
    refine z_iconst (v := 0) dX12_readsSum_12 (by decide) ?_
    obtain ⟨rfl, rfl⟩ := z_end hf
    exact z_iret ⟨rfl, rfl, rfl⟩ (Or.inr ⟨rfl, (Or.inl rfl)⟩) dX12_readsSum_13
noncomputable def f_X12_endsPiece_0 (x0 : Nat) : Nat → zM → Option (Unit × zM)
  | 0, _ => none
  | n + 1, M =>
    z_call (f_X12_waitTop x0 M) fun v_1 M_2 => (if v_1 = 10 then z_call (f_X12_notes x0 10 0 M_2) fun v_5 M_6 => zl (zu M_6.1 x0 11 ((M_6.1 x0 11) - 1), M_6.2) fun M_8 => zl (zu M_8.1 x0 9 ((M_8.1 x0 9) - 1), M_8.2) fun M_9 => (f_X12_endsPiece_0 x0 n M_9) else some ((), M_2))
set_option maxHeartbeats 2000000 in
set_option maxRecDepth 20000 in
theorem t_X12_endsPiece_0 {l : Launch} {x0 : Nat} {MO : zM} {v : Unit} (h0 : z_tm SH 11 x0) : ∀ (n : Nat) (M : zM), f_X12_endsPiece_0 x0 n M = some (v, MO) → zA l yX12_endsPiece cX12_endsPiece 1 none 2 0 0 SH.length (zDv SH MO) 0 0 0 [(0, .ref x0)] [] SH M := by
  intro n
  induction n with
  | zero =>
    intro M hf
    rw [f_X12_endsPiece_0] at hf
    cases hf
  | succ n ih =>
    intro M hf
    rw [f_X12_endsPiece_0] at hf
    refine z_aload_n dX12_endsPiece_0 rfl rfl ?_
    obtain ⟨v_1, M_2, c_3, hf⟩ := z_call_some hf
    refine z_cVi (t_X12_waitTop h0 c_3) kw_X12_waitTop lk_X12_157 h0 rfl (by decide) rfl (Nat.le_of_ble_eq_true rfl) ⟨Nat.le_refl 0, Nat.le_refl 0⟩ dX12_endsPiece_1 ?_
    refine z_bipush (v := 10) dX12_endsPiece_4 (by decide) ?_
    refine z_icmp_ne (tgt := 39) dX12_endsPiece_6 (by decide) (fun q_4 => ?_) (fun q_4 => ?_)
    · have hf := (if_neg q_4).symm.trans hf
      obtain ⟨rfl, rfl⟩ := z_end hf
      exact z_vret ⟨rfl, rfl, rfl⟩ rfl dX12_endsPiece_39
    · have hf := (if_pos q_4).symm.trans hf
      refine z_aload_n dX12_endsPiece_9 rfl rfl ?_
      refine z_bipush (v := 10) dX12_endsPiece_10 (by decide) ?_
      refine z_iconst (v := 0) dX12_endsPiece_12 (by decide) ?_
      obtain ⟨v_5, M_6, c_7, hf⟩ := z_call_some hf
      refine z_cVv (t_X12_notes h0 c_7) kw_X12_notes lk_X12_160 h0 rfl (by decide) rfl (Nat.le_of_ble_eq_true rfl) ⟨Nat.le_refl 0, Nat.le_refl 0⟩ dX12_endsPiece_13 ?_
      refine z_aload_n dX12_endsPiece_16 rfl rfl ?_
      refine z_aload_n dX12_endsPiece_17 rfl rfl ?_
      refine zgI fl_X12_154 h0 (fun _ => rfl) dX12_endsPiece_18 ?_
      refine z_iconst (v := 1) dX12_endsPiece_21 (by decide) ?_
      refine z_isub dX12_endsPiece_22 ?_
      obtain ⟨M_8, eM_8, hf⟩ := zl_some hf
      refine zpI fl_X12_154 h0 rfl (Or.inl rfl) eM_8 dX12_endsPiece_23 ?_
      refine z_aload_n dX12_endsPiece_26 rfl rfl ?_
      refine z_aload_n dX12_endsPiece_27 rfl rfl ?_
      refine zgI fl_X12_151 h0 (fun _ => rfl) dX12_endsPiece_28 ?_
      refine z_iconst (v := 1) dX12_endsPiece_31 (by decide) ?_
      refine z_isub dX12_endsPiece_32 ?_
      obtain ⟨M_9, eM_9, hf⟩ := zl_some hf
      refine zpI fl_X12_151 h0 rfl (Or.inl rfl) eM_9 dX12_endsPiece_33 ?_
      refine z_goto (tgt := 0) dX12_endsPiece_36 (by decide) ?_
      exact ih M_9 hf
noncomputable def f_X12_endsPiece (x0 : Nat) (M : zM) : Option (Unit × zM) :=
  (f_X12_endsPiece_0 x0 zF M)
set_option maxHeartbeats 2000000 in
set_option maxRecDepth 20000 in
theorem t_X12_endsPiece {l : Launch} {x0 : Nat} {M MO : zM} {v : Unit} (h0 : z_tm SH 11 x0) (hf : f_X12_endsPiece x0 M = some (v, MO)) : zMet l yX12_endsPiece cX12_endsPiece 1 none 2 0 0 [.ref x0] SH M (zDv SH MO) := by
  refine zMet.of (by decide +kernel) (Nat.le_of_ble_eq_true rfl) (Or.inl rfl) ?_
  show zA l yX12_endsPiece cX12_endsPiece 1 none 2 0 0 SH.length (zDv SH MO) 0 0 0 [(0, .ref x0)] [] SH M
  unfold f_X12_endsPiece at hf
  exact t_X12_endsPiece_0 h0 zF M hf
noncomputable def f_X12_lands_22 (x0 : Nat) (x1 : Int32) (k0 : zM → Option (Unit × zM)) (M : zM) : Option (Unit × zM) :=
  z_rd (M.2.1 x0 15) fun a_1 => if z_ix ((M.1 x0 11) - 1) (z_ln SH a_1) = true then zl (((M.1 a_1 (((M.1 x0 11) - 1) : Int32).toNatClampNeg) - (M.1 a_1 (((M.1 x0 11) - 1) : Int32).toNatClampNeg) / 1048576 * 1048576)) fun x2_3 => z_rd (M.2.1 x0 14) fun a_4 => z_rd (M.2.1 x0 14) fun a_5 => if z_ix x2_3 (z_ln SH a_5) = true then if z_ix x2_3 (z_ln SH a_4) = true then zl (zu M.1 a_4 (x2_3 : Int32).toNatClampNeg ((1048576 * ((M.1 a_5 (x2_3 : Int32).toNatClampNeg) / 1048576)) + (M.1 x0 10)), M.2) fun M_8 => zl (zu M_8.1 x0 11 ((M_8.1 x0 11) - 1), M_8.2) fun M_9 => (k0 M_9) else none else none else none
set_option maxHeartbeats 2000000 in
set_option maxRecDepth 20000 in
theorem t_X12_lands_22 {l : Launch} {x0 : Nat} {x1 : Int32} {k0 : zM → Option (Unit × zM)} {M MO : zM} {v : Unit} (h0 : z_tm SH 11 x0) (hk0 : ∀ (M : zM), k0 M = some (v, MO) → zA l yX12_lands cX12_lands 3 none 2 0 0 SH.length (zDv SH MO) 0 0 0 [(0, .ref x0), (1, .int x1)] [] SH M) (hf : f_X12_lands_22 x0 x1 k0 M = some (v, MO)) : zA l yX12_lands cX12_lands 3 none 2 0 0 SH.length (zDv SH MO) 0 0 22 [(0, .ref x0), (1, .int x1)] [] SH M := by
  unfold f_X12_lands_22 at hf
  refine z_aload_n dX12_lands_22 rfl rfl ?_
  obtain ⟨a_1, ra_1, hf⟩ := z_rd_some hf
  refine zgR fl_X12_26 h0 (fun _ => rfl) ra_1 dX12_lands_23 (fun ha_1 => ?_)
  refine z_aload_n dX12_lands_26 rfl rfl ?_
  refine zgI fl_X12_154 h0 (fun _ => rfl) dX12_lands_27 ?_
  refine z_iconst (v := 1) dX12_lands_30 (by decide) ?_
  refine z_isub dX12_lands_31 ?_
  obtain ⟨g_2, hf⟩ := z_ifs hf
  refine z_iald ha_1 g_2 rfl dX12_lands_32 ?_
  refine z_ldc (v := 1048576) dX12_lands_33 cn_X12_150 ?_
  refine z_irem dX12_lands_35 (by decide) ?_
  obtain ⟨x2_3, ex2_3, hf⟩ := zl_some hf
  refine z_istore_n' (lv' := [(2, .int x2_3), (0, .ref x0), (1, .int x1)]) rfl dX12_lands_36 (by decide) ex2_3 rfl ?_
  refine z_aload_n dX12_lands_37 rfl rfl ?_
  obtain ⟨a_4, ra_4, hf⟩ := z_rd_some hf
  refine zgR fl_X12_23 h0 (fun _ => rfl) ra_4 dX12_lands_38 (fun ha_4 => ?_)
  refine z_iload_n dX12_lands_41 rfl rfl ?_
  refine z_ldc (v := 1048576) dX12_lands_42 cn_X12_150 ?_
  refine z_aload_n dX12_lands_44 rfl rfl ?_
  obtain ⟨a_5, ra_5, hf⟩ := z_rd_some hf
  refine zgR fl_X12_23 h0 (fun _ => rfl) ra_5 dX12_lands_45 (fun ha_5 => ?_)
  refine z_iload_n dX12_lands_48 rfl rfl ?_
  obtain ⟨g_6, hf⟩ := z_ifs hf
  refine z_iald ha_5 g_6 rfl dX12_lands_49 ?_
  refine z_ldc (v := 1048576) dX12_lands_50 cn_X12_150 ?_
  refine z_idiv dX12_lands_52 (by decide) ?_
  refine z_imul dX12_lands_53 ?_
  refine z_aload_n dX12_lands_54 rfl rfl ?_
  refine zgI fl_X12_147 h0 (fun _ => rfl) dX12_lands_55 ?_
  refine z_iadd dX12_lands_58 ?_
  obtain ⟨g_7, hf⟩ := z_ifs hf
  obtain ⟨M_8, eM_8, hf⟩ := zl_some hf
  refine z_iast ha_4 g_7 eM_8 dX12_lands_59 ?_
  refine z_aload_n dX12_lands_60 rfl rfl ?_
  refine z_aload_n dX12_lands_61 rfl rfl ?_
  refine zgI fl_X12_154 h0 (fun _ => rfl) dX12_lands_62 ?_
  refine z_iconst (v := 1) dX12_lands_65 (by decide) ?_
  refine z_isub dX12_lands_66 ?_
  obtain ⟨M_9, eM_9, hf⟩ := zl_some hf
  refine zpI fl_X12_154 h0 rfl (Or.inl rfl) eM_9 dX12_lands_67 ?_
  refine z_goto (tgt := 0) dX12_lands_70 (by decide) ?_
  refine zA.pick [(0, .ref x0), (1, .int x1)] [1, 2] rfl ?_
  exact hk0 M_9 hf
noncomputable def f_X12_lands_0 (x0 : Nat) (x1 : Int32) : Nat → zM → Option (Unit × zM)
  | 0, _ => none
  | n + 1, M =>
    z_call (f_X12_waitTop x0 M) fun v_1 M_2 => (if v_1 = 11 then (f_X12_lands_22 x0 x1 (f_X12_lands_0 x0 x1 n) M_2) else (if x1 = 0 then some ((), M_2) else z_call (f_X12_waitTop x0 M_2) fun v_6 M_7 => (if v_6 = 12 then (f_X12_lands_22 x0 x1 (f_X12_lands_0 x0 x1 n) M_7) else some ((), M_7))))
set_option maxHeartbeats 2000000 in
set_option maxRecDepth 20000 in
theorem t_X12_lands_0 {l : Launch} {x0 : Nat} {x1 : Int32} {MO : zM} {v : Unit} (h0 : z_tm SH 11 x0) : ∀ (n : Nat) (M : zM), f_X12_lands_0 x0 x1 n M = some (v, MO) → zA l yX12_lands cX12_lands 3 none 2 0 0 SH.length (zDv SH MO) 0 0 0 [(0, .ref x0), (1, .int x1)] [] SH M := by
  intro n
  induction n with
  | zero =>
    intro M hf
    rw [f_X12_lands_0] at hf
    cases hf
  | succ n ih =>
    intro M hf
    rw [f_X12_lands_0] at hf
    refine z_aload_n dX12_lands_0 rfl rfl ?_
    obtain ⟨v_1, M_2, c_3, hf⟩ := z_call_some hf
    refine z_cVi (t_X12_waitTop h0 c_3) kw_X12_waitTop lk_X12_157 h0 rfl (by decide) rfl (Nat.le_of_ble_eq_true rfl) ⟨Nat.le_refl 0, Nat.le_refl 0⟩ dX12_lands_1 ?_
    refine z_bipush (v := 11) dX12_lands_4 (by decide) ?_
    refine z_icmp_eq (tgt := 22) dX12_lands_6 (by decide) (fun q_4 => ?_) (fun q_4 => ?_)
    · have hf := (if_pos q_4).symm.trans hf
      exact t_X12_lands_22 h0 ih hf
    · have hf := (if_neg q_4).symm.trans hf
      refine z_iload_n dX12_lands_9 rfl rfl ?_
      refine z_if_eq (tgt := 73) dX12_lands_10 (by decide) (fun q_5 => ?_) (fun q_5 => ?_)
      · have hf := (if_pos q_5).symm.trans hf
        obtain ⟨rfl, rfl⟩ := z_end hf
        exact z_vret ⟨rfl, rfl, rfl⟩ rfl dX12_lands_73
      · have hf := (if_neg q_5).symm.trans hf
        refine z_aload_n dX12_lands_13 rfl rfl ?_
        obtain ⟨v_6, M_7, c_8, hf⟩ := z_call_some hf
        refine z_cVi (t_X12_waitTop h0 c_8) kw_X12_waitTop lk_X12_157 h0 rfl (by decide) rfl (Nat.le_of_ble_eq_true rfl) ⟨Nat.le_refl 0, Nat.le_refl 0⟩ dX12_lands_14 ?_
        refine z_bipush (v := 12) dX12_lands_17 (by decide) ?_
        refine z_icmp_ne (tgt := 73) dX12_lands_19 (by decide) (fun q_9 => ?_) (fun q_9 => ?_)
        · have hf := (if_neg q_9).symm.trans hf
          obtain ⟨rfl, rfl⟩ := z_end hf
          exact z_vret ⟨rfl, rfl, rfl⟩ rfl dX12_lands_73
        · have hf := (if_pos q_9).symm.trans hf
          exact t_X12_lands_22 h0 ih hf
noncomputable def f_X12_lands (x0 : Nat) (x1 : Int32) (M : zM) : Option (Unit × zM) :=
  (f_X12_lands_0 x0 x1 zF M)
set_option maxHeartbeats 2000000 in
set_option maxRecDepth 20000 in
theorem t_X12_lands {l : Launch} {x0 : Nat} {x1 : Int32} {M MO : zM} {v : Unit} (h0 : z_tm SH 11 x0) (hf : f_X12_lands x0 x1 M = some (v, MO)) : zMet l yX12_lands cX12_lands 3 none 2 0 0 [.ref x0, .int x1] SH M (zDv SH MO) := by
  refine zMet.of (by decide +kernel) (Nat.le_of_ble_eq_true rfl) (Or.inl rfl) ?_
  show zA l yX12_lands cX12_lands 3 none 2 0 0 SH.length (zDv SH MO) 0 0 0 [(0, .ref x0), (1, .int x1)] [] SH M
  unfold f_X12_lands at hf
  exact t_X12_lands_0 h0 zF M hf
noncomputable def f_X12_jumps (x0 : Nat) (x1 : Int32) (M : zM) : Option (Unit × zM) :=
  z_rd (M.2.1 x0 15) fun a_1 => if z_ix (M.1 x0 11) (z_ln SH a_1) = true then zl (zu M.1 a_1 ((M.1 x0 11) : Int32).toNatClampNeg ((1048576 * x1) + (M.1 x0 10)), M.2) fun M_3 => zl (zu M_3.1 x0 11 ((M_3.1 x0 11) + 1), M_3.2) fun M_4 => z_call (f_X12_notes x0 x1 0 M_4) fun v_5 M_6 => zl (zu M_6.1 x0 5 ((M_6.1 x0 5) + 1), M_6.2) fun M_8 => some ((), M_8) else none
set_option maxHeartbeats 2000000 in
set_option maxRecDepth 20000 in
theorem t_X12_jumps {l : Launch} {x0 : Nat} {x1 : Int32} {M MO : zM} {v : Unit} (h0 : z_tm SH 11 x0) (hf : f_X12_jumps x0 x1 M = some (v, MO)) : zMet l yX12_jumps cX12_jumps 2 none 2 0 0 [.ref x0, .int x1] SH M (zDv SH MO) := by
  refine zMet.of (by decide +kernel) (Nat.le_of_ble_eq_true rfl) (Or.inl rfl) ?_
  show zA l yX12_jumps cX12_jumps 2 none 2 0 0 SH.length (zDv SH MO) 0 0 0 [(0, .ref x0), (1, .int x1)] [] SH M
  unfold f_X12_jumps at hf
  refine z_aload_n dX12_jumps_0 rfl rfl ?_
  obtain ⟨a_1, ra_1, hf⟩ := z_rd_some hf
  refine zgR fl_X12_26 h0 (fun _ => rfl) ra_1 dX12_jumps_1 (fun ha_1 => ?_)
  refine z_aload_n dX12_jumps_4 rfl rfl ?_
  refine zgI fl_X12_154 h0 (fun _ => rfl) dX12_jumps_5 ?_
  refine z_ldc (v := 1048576) dX12_jumps_8 cn_X12_150 ?_
  refine z_iload_n dX12_jumps_10 rfl rfl ?_
  refine z_imul dX12_jumps_11 ?_
  refine z_aload_n dX12_jumps_12 rfl rfl ?_
  refine zgI fl_X12_147 h0 (fun _ => rfl) dX12_jumps_13 ?_
  refine z_iadd dX12_jumps_16 ?_
  obtain ⟨g_2, hf⟩ := z_ifs hf
  obtain ⟨M_3, eM_3, hf⟩ := zl_some hf
  refine z_iast ha_1 g_2 eM_3 dX12_jumps_17 ?_
  refine z_aload_n dX12_jumps_18 rfl rfl ?_
  refine z_aload_n dX12_jumps_19 rfl rfl ?_
  refine zgI fl_X12_154 h0 (fun _ => rfl) dX12_jumps_20 ?_
  refine z_iconst (v := 1) dX12_jumps_23 (by decide) ?_
  refine z_iadd dX12_jumps_24 ?_
  obtain ⟨M_4, eM_4, hf⟩ := zl_some hf
  refine zpI fl_X12_154 h0 rfl (Or.inl rfl) eM_4 dX12_jumps_25 ?_
  refine z_aload_n dX12_jumps_28 rfl rfl ?_
  refine z_iload_n dX12_jumps_29 rfl rfl ?_
  refine z_iconst (v := 0) dX12_jumps_30 (by decide) ?_
  obtain ⟨v_5, M_6, c_7, hf⟩ := z_call_some hf
  refine z_cVv (t_X12_notes h0 c_7) kw_X12_notes lk_X12_160 h0 rfl (by decide) rfl (Nat.le_of_ble_eq_true rfl) ⟨Nat.le_refl 0, Nat.le_refl 0⟩ dX12_jumps_31 ?_
  refine z_aload_n dX12_jumps_34 rfl rfl ?_
  refine z_aload_n dX12_jumps_35 rfl rfl ?_
  refine zgI fl_X12_123 h0 (fun _ => rfl) dX12_jumps_36 ?_
  refine z_iconst (v := 1) dX12_jumps_39 (by decide) ?_
  refine z_iadd dX12_jumps_40 ?_
  obtain ⟨M_8, eM_8, hf⟩ := zl_some hf
  refine zpI fl_X12_123 h0 rfl (Or.inl rfl) eM_8 dX12_jumps_41 ?_
  obtain ⟨rfl, rfl⟩ := z_end hf
  exact z_vret ⟨rfl, rfl, rfl⟩ rfl dX12_jumps_44
noncomputable def f_X12_readsCompared_52 (x0 : Nat) (s0 : Int32) (M : zM) : Option (Int32 × zM) :=
  (if s0 = (-1) then z_call (f_X12_wrongAt x0 1 (M.1 x0 5) M) fun v_13 M_14 => if ((v_13 : Int32) = 0 ∨ (v_13 : Int32) = 1) then some (v_13, M_14) else none else zl (zu M.1 x0 5 ((M.1 x0 5) + 1), M.2) fun M_2 => z_call (f_X12_readsSum x0 M_2) fun v_3 M_4 => (if v_3 = 0 then some (0, M_4) else z_call (f_X12_notes x0 s0 0 M_4) fun v_7 M_8 => z_call (f_X12_endsPiece x0 M_8) fun v_10 M_11 => some (1, M_11)))
set_option maxHeartbeats 2000000 in
set_option maxRecDepth 20000 in
theorem t_X12_readsCompared_52 {l : Launch} {x0 : Nat} {s0 : Int32} {M MO : zM} {v : Int32} (h0 : z_tm SH 11 x0) (hf : f_X12_readsCompared_52 x0 s0 M = some (v, MO)) : zA l yX12_readsCompared cX12_readsCompared 2 (some .boolean) 6 0 0 SH.length (zDi SH v MO) 0 0 52 [(0, .ref x0)] [.int s0] SH M := by
  unfold f_X12_readsCompared_52 at hf
  refine z_istore_n' (lv' := [(1, .int s0), (0, .ref x0)]) rfl dX12_readsCompared_52 (by decide) rfl rfl ?_
  refine z_iload_n dX12_readsCompared_53 rfl rfl ?_
  refine z_iconst (v := (-1)) dX12_readsCompared_54 (by decide) ?_
  refine z_icmp_ne (tgt := 68) dX12_readsCompared_55 (by decide) (fun q_1 => ?_) (fun q_1 => ?_)
  · have hf := (if_neg q_1).symm.trans hf
    refine z_aload_n dX12_readsCompared_68 rfl rfl ?_
    refine z_aload_n dX12_readsCompared_69 rfl rfl ?_
    refine zgI fl_X12_123 h0 (fun _ => rfl) dX12_readsCompared_70 ?_
    refine z_iconst (v := 1) dX12_readsCompared_73 (by decide) ?_
    refine z_iadd dX12_readsCompared_74 ?_
    obtain ⟨M_2, eM_2, hf⟩ := zl_some hf
    refine zpI fl_X12_123 h0 rfl (Or.inl rfl) eM_2 dX12_readsCompared_75 ?_
    refine z_aload_n dX12_readsCompared_78 rfl rfl ?_
    obtain ⟨v_3, M_4, c_5, hf⟩ := z_call_some hf
    refine z_cVi (t_X12_readsSum h0 c_5) kw_X12_readsSum lk_X12_187 h0 rfl (by decide) rfl (Nat.le_of_ble_eq_true rfl) ⟨Nat.le_refl 0, Nat.le_refl 0⟩ dX12_readsCompared_79 ?_
    refine z_if_ne (tgt := 87) dX12_readsCompared_82 (by decide) (fun q_6 => ?_) (fun q_6 => ?_)
    · have hf := (if_neg q_6).symm.trans hf
      refine z_aload_n dX12_readsCompared_87 rfl rfl ?_
      refine z_iload_n dX12_readsCompared_88 rfl rfl ?_
      refine z_iconst (v := 0) dX12_readsCompared_89 (by decide) ?_
      obtain ⟨v_7, M_8, c_9, hf⟩ := z_call_some hf
      refine z_cVv (t_X12_notes h0 c_9) kw_X12_notes lk_X12_160 h0 rfl (by decide) rfl (Nat.le_of_ble_eq_true rfl) ⟨Nat.le_refl 0, Nat.le_refl 0⟩ dX12_readsCompared_90 ?_
      refine z_aload_n dX12_readsCompared_93 rfl rfl ?_
      obtain ⟨v_10, M_11, c_12, hf⟩ := z_call_some hf
      refine z_cVv (t_X12_endsPiece h0 c_12) kw_X12_endsPiece lk_X12_190 h0 rfl (by decide) rfl (Nat.le_of_ble_eq_true rfl) ⟨Nat.le_refl 0, Nat.le_refl 0⟩ dX12_readsCompared_94 ?_
      refine z_iconst (v := 1) dX12_readsCompared_97 (by decide) ?_
      obtain ⟨rfl, rfl⟩ := z_end hf
      exact z_iret ⟨rfl, rfl, rfl⟩ (Or.inr ⟨rfl, (Or.inr rfl)⟩) dX12_readsCompared_98
    · have hf := (if_pos q_6).symm.trans hf
      refine z_iconst (v := 0) dX12_readsCompared_85 (by decide) ?_
      obtain ⟨rfl, rfl⟩ := z_end hf
      exact z_iret ⟨rfl, rfl, rfl⟩ (Or.inr ⟨rfl, (Or.inl rfl)⟩) dX12_readsCompared_86
  · have hf := (if_pos q_1).symm.trans hf
    refine z_aload_n dX12_readsCompared_58 rfl rfl ?_
    refine z_iconst (v := 1) dX12_readsCompared_59 (by decide) ?_
    refine z_aload_n dX12_readsCompared_60 rfl rfl ?_
    refine zgI fl_X12_123 h0 (fun _ => rfl) dX12_readsCompared_61 ?_
    obtain ⟨v_13, M_14, c_15, hf⟩ := z_call_some hf
    refine z_cVi (t_X12_wrongAt h0 c_15) kw_X12_wrongAt lk_X12_136 h0 rfl (by decide) rfl (Nat.le_of_ble_eq_true rfl) ⟨Nat.le_refl 0, Nat.le_refl 0⟩ dX12_readsCompared_64 ?_
    obtain ⟨g_16, hf⟩ := z_ifs hf
    obtain ⟨rfl, rfl⟩ := z_end hf
    exact z_iret ⟨rfl, rfl, rfl⟩ (Or.inr ⟨rfl, g_16⟩) dX12_readsCompared_67
noncomputable def f_X12_readsCompared (x0 : Nat) (M : zM) : Option (Int32 × zM) :=
  z_call (f_X12_readsSum x0 M) fun v_1 M_2 => (if v_1 = 0 then some (0, M_2) else z_call (f_X12_here x0 M_2) fun v_5 M_6 => (if v_5 = 60 then (f_X12_readsCompared_52 x0 7 M_6) else z_call (f_X12_here x0 M_6) fun v_9 M_10 => (if v_9 = 62 then (f_X12_readsCompared_52 x0 8 M_10) else z_call (f_X12_here x0 M_10) fun v_13 M_14 => (if v_13 = 61 then (f_X12_readsCompared_52 x0 9 M_14) else (f_X12_readsCompared_52 x0 (-1) M_14)))))
set_option maxHeartbeats 2000000 in
set_option maxRecDepth 20000 in
theorem t_X12_readsCompared {l : Launch} {x0 : Nat} {M MO : zM} {v : Int32} (h0 : z_tm SH 11 x0) (hf : f_X12_readsCompared x0 M = some (v, MO)) : zMet l yX12_readsCompared cX12_readsCompared 2 (some .boolean) 6 0 0 [.ref x0] SH M (zDi SH v MO) := by
  refine zMet.of (by decide +kernel) (Nat.le_of_ble_eq_true rfl) (Or.inr (Or.inr (Or.inl rfl))) ?_
  show zA l yX12_readsCompared cX12_readsCompared 2 (some .boolean) 6 0 0 SH.length (zDi SH v MO) 0 0 0 [(0, .ref x0)] [] SH M
  unfold f_X12_readsCompared at hf
  refine z_aload_n dX12_readsCompared_0 rfl rfl ?_
  obtain ⟨v_1, M_2, c_3, hf⟩ := z_call_some hf
  refine z_cVi (t_X12_readsSum h0 c_3) kw_X12_readsSum lk_X12_187 h0 rfl (by decide) rfl (Nat.le_of_ble_eq_true rfl) ⟨Nat.le_refl 0, Nat.le_refl 0⟩ dX12_readsCompared_1 ?_
  refine z_if_ne (tgt := 9) dX12_readsCompared_4 (by decide) (fun q_4 => ?_) (fun q_4 => ?_)
  · have hf := (if_neg q_4).symm.trans hf
    refine z_aload_n dX12_readsCompared_9 rfl rfl ?_
    obtain ⟨v_5, M_6, c_7, hf⟩ := z_call_some hf
    refine z_cVi (t_X12_here h0 c_7) kw_X12_here lk_X12_129 h0 rfl (by decide) rfl (Nat.le_of_ble_eq_true rfl) ⟨Nat.le_refl 0, Nat.le_refl 0⟩ dX12_readsCompared_10 ?_
    refine z_bipush (v := 60) dX12_readsCompared_13 (by decide) ?_
    refine z_icmp_ne (tgt := 23) dX12_readsCompared_15 (by decide) (fun q_8 => ?_) (fun q_8 => ?_)
    · have hf := (if_neg q_8).symm.trans hf
      refine z_aload_n dX12_readsCompared_23 rfl rfl ?_
      obtain ⟨v_9, M_10, c_11, hf⟩ := z_call_some hf
      refine z_cVi (t_X12_here h0 c_11) kw_X12_here lk_X12_129 h0 rfl (by decide) rfl (Nat.le_of_ble_eq_true rfl) ⟨Nat.le_refl 0, Nat.le_refl 0⟩ dX12_readsCompared_24 ?_
      refine z_bipush (v := 62) dX12_readsCompared_27 (by decide) ?_
      refine z_icmp_ne (tgt := 37) dX12_readsCompared_29 (by decide) (fun q_12 => ?_) (fun q_12 => ?_)
      · have hf := (if_neg q_12).symm.trans hf
        refine z_aload_n dX12_readsCompared_37 rfl rfl ?_
        obtain ⟨v_13, M_14, c_15, hf⟩ := z_call_some hf
        refine z_cVi (t_X12_here h0 c_15) kw_X12_here lk_X12_129 h0 rfl (by decide) rfl (Nat.le_of_ble_eq_true rfl) ⟨Nat.le_refl 0, Nat.le_refl 0⟩ dX12_readsCompared_38 ?_
        refine z_bipush (v := 61) dX12_readsCompared_41 (by decide) ?_
        refine z_icmp_ne (tgt := 51) dX12_readsCompared_43 (by decide) (fun q_16 => ?_) (fun q_16 => ?_)
        · have hf := (if_neg q_16).symm.trans hf
          refine z_iconst (v := (-1)) dX12_readsCompared_51 (by decide) ?_
          exact t_X12_readsCompared_52 h0 hf
        · have hf := (if_pos q_16).symm.trans hf
          refine z_bipush (v := 9) dX12_readsCompared_46 (by decide) ?_
          refine z_goto (tgt := 52) dX12_readsCompared_48 (by decide) ?_
          exact t_X12_readsCompared_52 h0 hf
      · have hf := (if_pos q_12).symm.trans hf
        refine z_bipush (v := 8) dX12_readsCompared_32 (by decide) ?_
        refine z_goto (tgt := 52) dX12_readsCompared_34 (by decide) ?_
        exact t_X12_readsCompared_52 h0 hf
    · have hf := (if_pos q_8).symm.trans hf
      refine z_bipush (v := 7) dX12_readsCompared_18 (by decide) ?_
      refine z_goto (tgt := 52) dX12_readsCompared_20 (by decide) ?_
      exact t_X12_readsCompared_52 h0 hf
  · have hf := (if_pos q_4).symm.trans hf
    refine z_iconst (v := 0) dX12_readsCompared_7 (by decide) ?_
    obtain ⟨rfl, rfl⟩ := z_end hf
    exact z_iret ⟨rfl, rfl, rfl⟩ (Or.inr ⟨rfl, (Or.inl rfl)⟩) dX12_readsCompared_8
noncomputable def f_X12_readsCondition_75 (x0 : Nat) (k40 : zM → Option (Int32 × zM)) (s0 : Nat) (s1 : Int32) (M : zM) : Option (Int32 × zM) :=
  z_call (f_X12_opens s0 s1 M) fun v_1 M_2 => (if v_1 = 0 then some (0, M_2) else (k40 M_2))
set_option maxHeartbeats 2000000 in
set_option maxRecDepth 20000 in
theorem t_X12_readsCondition_75 {l : Launch} {x0 : Nat} {k40 : zM → Option (Int32 × zM)} {s0 : Nat} {s1 : Int32} {M MO : zM} {v : Int32} (h0 : z_tm SH 11 x0) (hk40 : ∀ (M : zM), k40 M = some (v, MO) → zA l yX12_readsCondition cX12_readsCondition 1 (some .boolean) 7 0 0 SH.length (zDi SH v MO) 0 0 40 [(0, .ref x0)] [] SH M) (hs0 : z_tm SH 11 s0) (hf : f_X12_readsCondition_75 x0 k40 s0 s1 M = some (v, MO)) : zA l yX12_readsCondition cX12_readsCondition 1 (some .boolean) 7 0 0 SH.length (zDi SH v MO) 0 0 75 [(0, .ref x0)] [.int s1, .ref s0] SH M := by
  unfold f_X12_readsCondition_75 at hf
  obtain ⟨v_1, M_2, c_3, hf⟩ := z_call_some hf
  refine z_cVi (t_X12_opens hs0 c_3) kw_X12_opens lk_X12_164 hs0 rfl (by decide) rfl (Nat.le_of_ble_eq_true rfl) ⟨Nat.le_refl 0, Nat.le_refl 0⟩ dX12_readsCondition_75 ?_
  refine z_if_ne (tgt := 40) dX12_readsCondition_78 (by decide) (fun q_4 => ?_) (fun q_4 => ?_)
  · have hf := (if_neg q_4).symm.trans hf
    exact hk40 M_2 hf
  · have hf := (if_pos q_4).symm.trans hf
    refine z_iconst (v := 0) dX12_readsCondition_81 (by decide) ?_
    obtain ⟨rfl, rfl⟩ := z_end hf
    exact z_iret ⟨rfl, rfl, rfl⟩ (Or.inr ⟨rfl, (Or.inl rfl)⟩) dX12_readsCondition_82
noncomputable def f_X12_readsCondition_58 (x0 : Nat) (k40 : zM → Option (Int32 × zM)) (M : zM) : Option (Int32 × zM) :=
  z_call (f_X12_here x0 M) fun v_1 M_2 => (if v_1 = 33 then (f_X12_readsCondition_75 x0 k40 x0 10 M_2) else (f_X12_readsCondition_75 x0 k40 x0 13 M_2))
set_option maxHeartbeats 2000000 in
set_option maxRecDepth 20000 in
theorem t_X12_readsCondition_58 {l : Launch} {x0 : Nat} {k40 : zM → Option (Int32 × zM)} {M MO : zM} {v : Int32} (h0 : z_tm SH 11 x0) (hk40 : ∀ (M : zM), k40 M = some (v, MO) → zA l yX12_readsCondition cX12_readsCondition 1 (some .boolean) 7 0 0 SH.length (zDi SH v MO) 0 0 40 [(0, .ref x0)] [] SH M) (hf : f_X12_readsCondition_58 x0 k40 M = some (v, MO)) : zA l yX12_readsCondition cX12_readsCondition 1 (some .boolean) 7 0 0 SH.length (zDi SH v MO) 0 0 58 [(0, .ref x0)] [] SH M := by
  unfold f_X12_readsCondition_58 at hf
  refine z_aload_n dX12_readsCondition_58 rfl rfl ?_
  refine z_aload_n dX12_readsCondition_59 rfl rfl ?_
  obtain ⟨v_1, M_2, c_3, hf⟩ := z_call_some hf
  refine z_cVi (t_X12_here h0 c_3) kw_X12_here lk_X12_129 h0 rfl (by decide) rfl (Nat.le_of_ble_eq_true rfl) ⟨Nat.le_refl 0, Nat.le_refl 0⟩ dX12_readsCondition_60 ?_
  refine z_bipush (v := 33) dX12_readsCondition_63 (by decide) ?_
  refine z_icmp_ne (tgt := 73) dX12_readsCondition_65 (by decide) (fun q_4 => ?_) (fun q_4 => ?_)
  · have hf := (if_neg q_4).symm.trans hf
    refine z_bipush (v := 13) dX12_readsCondition_73 (by decide) ?_
    exact t_X12_readsCondition_75 h0 hk40 h0 hf
  · have hf := (if_pos q_4).symm.trans hf
    refine z_bipush (v := 10) dX12_readsCondition_68 (by decide) ?_
    refine z_goto (tgt := 75) dX12_readsCondition_70 (by decide) ?_
    exact t_X12_readsCondition_75 h0 hk40 h0 hf
noncomputable def f_X12_readsCondition_215 (x0 : Nat) (k40 : zM → Option (Int32 × zM)) (s0 : Nat) (s1 : Int32) (M : zM) : Option (Int32 × zM) :=
  z_call (f_X12_jumps s0 s1 M) fun v_1 M_2 => (k40 M_2)
set_option maxHeartbeats 2000000 in
set_option maxRecDepth 20000 in
theorem t_X12_readsCondition_215 {l : Launch} {x0 : Nat} {k40 : zM → Option (Int32 × zM)} {s0 : Nat} {s1 : Int32} {M MO : zM} {v : Int32} (h0 : z_tm SH 11 x0) (hk40 : ∀ (M : zM), k40 M = some (v, MO) → zA l yX12_readsCondition cX12_readsCondition 1 (some .boolean) 7 0 0 SH.length (zDi SH v MO) 0 0 40 [(0, .ref x0)] [] SH M) (hs0 : z_tm SH 11 s0) (hf : f_X12_readsCondition_215 x0 k40 s0 s1 M = some (v, MO)) : zA l yX12_readsCondition cX12_readsCondition 1 (some .boolean) 7 0 0 SH.length (zDi SH v MO) 0 0 215 [(0, .ref x0)] [.int s1, .ref s0] SH M := by
  unfold f_X12_readsCondition_215 at hf
  obtain ⟨v_1, M_2, c_3, hf⟩ := z_call_some hf
  refine z_cVv (t_X12_jumps hs0 c_3) kw_X12_jumps lk_X12_199 hs0 rfl (by decide) rfl (Nat.le_of_ble_eq_true rfl) ⟨Nat.le_refl 0, Nat.le_refl 0⟩ dX12_readsCondition_215 ?_
  refine z_goto (tgt := 40) dX12_readsCondition_218 (by decide) ?_
  exact hk40 M_2 hf
noncomputable def f_X12_readsCondition_195 (x0 : Nat) (k40 : zM → Option (Int32 × zM)) (s0 : Nat) (s1 : Int32) (M : zM) : Option (Int32 × zM) :=
  z_call (f_X12_lands s0 s1 M) fun v_1 M_2 => z_call (f_X12_here x0 M_2) fun v_4 M_5 => (if v_4 = 38 then (f_X12_readsCondition_215 x0 k40 x0 11 M_5) else (f_X12_readsCondition_215 x0 k40 x0 12 M_5))
set_option maxHeartbeats 2000000 in
set_option maxRecDepth 20000 in
theorem t_X12_readsCondition_195 {l : Launch} {x0 : Nat} {k40 : zM → Option (Int32 × zM)} {s0 : Nat} {s1 : Int32} {M MO : zM} {v : Int32} (h0 : z_tm SH 11 x0) (hk40 : ∀ (M : zM), k40 M = some (v, MO) → zA l yX12_readsCondition cX12_readsCondition 1 (some .boolean) 7 0 0 SH.length (zDi SH v MO) 0 0 40 [(0, .ref x0)] [] SH M) (hs0 : z_tm SH 11 s0) (hf : f_X12_readsCondition_195 x0 k40 s0 s1 M = some (v, MO)) : zA l yX12_readsCondition cX12_readsCondition 1 (some .boolean) 7 0 0 SH.length (zDi SH v MO) 0 0 195 [(0, .ref x0)] [.int s1, .ref s0] SH M := by
  unfold f_X12_readsCondition_195 at hf
  obtain ⟨v_1, M_2, c_3, hf⟩ := z_call_some hf
  refine z_cVv (t_X12_lands hs0 c_3) kw_X12_lands lk_X12_196 hs0 rfl (by decide) rfl (Nat.le_of_ble_eq_true rfl) ⟨Nat.le_refl 0, Nat.le_refl 0⟩ dX12_readsCondition_195 ?_
  refine z_aload_n dX12_readsCondition_198 rfl rfl ?_
  refine z_aload_n dX12_readsCondition_199 rfl rfl ?_
  obtain ⟨v_4, M_5, c_6, hf⟩ := z_call_some hf
  refine z_cVi (t_X12_here h0 c_6) kw_X12_here lk_X12_129 h0 rfl (by decide) rfl (Nat.le_of_ble_eq_true rfl) ⟨Nat.le_refl 0, Nat.le_refl 0⟩ dX12_readsCondition_200 ?_
  refine z_bipush (v := 38) dX12_readsCondition_203 (by decide) ?_
  refine z_icmp_ne (tgt := 213) dX12_readsCondition_205 (by decide) (fun q_7 => ?_) (fun q_7 => ?_)
  · have hf := (if_neg q_7).symm.trans hf
    refine z_bipush (v := 12) dX12_readsCondition_213 (by decide) ?_
    exact t_X12_readsCondition_215 h0 hk40 h0 hf
  · have hf := (if_pos q_7).symm.trans hf
    refine z_bipush (v := 11) dX12_readsCondition_208 (by decide) ?_
    refine z_goto (tgt := 215) dX12_readsCondition_210 (by decide) ?_
    exact t_X12_readsCondition_215 h0 hk40 h0 hf
noncomputable def f_X12_readsCondition_180 (x0 : Nat) (k40 : zM → Option (Int32 × zM)) (M : zM) : Option (Int32 × zM) :=
  z_call (f_X12_here x0 M) fun v_1 M_2 => (if v_1 = 124 then (f_X12_readsCondition_195 x0 k40 x0 1 M_2) else (f_X12_readsCondition_195 x0 k40 x0 0 M_2))
set_option maxHeartbeats 2000000 in
set_option maxRecDepth 20000 in
theorem t_X12_readsCondition_180 {l : Launch} {x0 : Nat} {k40 : zM → Option (Int32 × zM)} {M MO : zM} {v : Int32} (h0 : z_tm SH 11 x0) (hk40 : ∀ (M : zM), k40 M = some (v, MO) → zA l yX12_readsCondition cX12_readsCondition 1 (some .boolean) 7 0 0 SH.length (zDi SH v MO) 0 0 40 [(0, .ref x0)] [] SH M) (hf : f_X12_readsCondition_180 x0 k40 M = some (v, MO)) : zA l yX12_readsCondition cX12_readsCondition 1 (some .boolean) 7 0 0 SH.length (zDi SH v MO) 0 0 180 [(0, .ref x0)] [] SH M := by
  unfold f_X12_readsCondition_180 at hf
  refine z_aload_n dX12_readsCondition_180 rfl rfl ?_
  refine z_aload_n dX12_readsCondition_181 rfl rfl ?_
  obtain ⟨v_1, M_2, c_3, hf⟩ := z_call_some hf
  refine z_cVi (t_X12_here h0 c_3) kw_X12_here lk_X12_129 h0 rfl (by decide) rfl (Nat.le_of_ble_eq_true rfl) ⟨Nat.le_refl 0, Nat.le_refl 0⟩ dX12_readsCondition_182 ?_
  refine z_bipush (v := 124) dX12_readsCondition_185 (by decide) ?_
  refine z_icmp_ne (tgt := 194) dX12_readsCondition_187 (by decide) (fun q_4 => ?_) (fun q_4 => ?_)
  · have hf := (if_neg q_4).symm.trans hf
    refine z_iconst (v := 0) dX12_readsCondition_194 (by decide) ?_
    exact t_X12_readsCondition_195 h0 hk40 h0 hf
  · have hf := (if_pos q_4).symm.trans hf
    refine z_iconst (v := 1) dX12_readsCondition_190 (by decide) ?_
    refine z_goto (tgt := 195) dX12_readsCondition_191 (by decide) ?_
    exact t_X12_readsCondition_195 h0 hk40 h0 hf
noncomputable def f_X12_readsCondition_92 (x0 : Nat) (k40 : zM → Option (Int32 × zM)) : Nat → zM → Option (Int32 × zM)
  | 0, _ => none
  | n + 1, M =>
    z_call (f_X12_here x0 M) fun v_1 M_2 => (if v_1 = 41 then z_call (f_X12_lands x0 1 M_2) fun v_17 M_18 => zl (zu M_18.1 x0 11 ((M_18.1 x0 11) - 1), M_18.2) fun M_20 => zl (zu M_20.1 x0 9 ((M_20.1 x0 9) - 1), M_20.2) fun M_21 => zl (zu M_21.1 x0 5 ((M_21.1 x0 5) + 1), M_21.2) fun M_22 => (if (M_22.1 x0 11) = 0 then some (1, M_22) else z_call (f_X12_endsPiece x0 M_22) fun v_24 M_25 => (f_X12_readsCondition_92 x0 k40 n M_25)) else z_call (f_X12_here x0 M_2) fun v_5 M_6 => (if v_5 = 38 then (f_X12_readsCondition_180 x0 k40 M_6) else z_call (f_X12_here x0 M_6) fun v_9 M_10 => (if v_9 = 124 then (f_X12_readsCondition_180 x0 k40 M_10) else z_call (f_X12_wrongAt x0 1 (M_10.1 x0 5) M_10) fun v_13 M_14 => if ((v_13 : Int32) = 0 ∨ (v_13 : Int32) = 1) then some (v_13, M_14) else none)))
set_option maxHeartbeats 2000000 in
set_option maxRecDepth 20000 in
theorem t_X12_readsCondition_92 {l : Launch} {x0 : Nat} {k40 : zM → Option (Int32 × zM)} {MO : zM} {v : Int32} (h0 : z_tm SH 11 x0) (hk40 : ∀ (M : zM), k40 M = some (v, MO) → zA l yX12_readsCondition cX12_readsCondition 1 (some .boolean) 7 0 0 SH.length (zDi SH v MO) 0 0 40 [(0, .ref x0)] [] SH M) : ∀ (n : Nat) (M : zM), f_X12_readsCondition_92 x0 k40 n M = some (v, MO) → zA l yX12_readsCondition cX12_readsCondition 1 (some .boolean) 7 0 0 SH.length (zDi SH v MO) 0 0 92 [(0, .ref x0)] [] SH M := by
  intro n
  induction n with
  | zero =>
    intro M hf
    rw [f_X12_readsCondition_92] at hf
    cases hf
  | succ n ih =>
    intro M hf
    rw [f_X12_readsCondition_92] at hf
    refine z_aload_n dX12_readsCondition_92 rfl rfl ?_
    obtain ⟨v_1, M_2, c_3, hf⟩ := z_call_some hf
    refine z_cVi (t_X12_here h0 c_3) kw_X12_here lk_X12_129 h0 rfl (by decide) rfl (Nat.le_of_ble_eq_true rfl) ⟨Nat.le_refl 0, Nat.le_refl 0⟩ dX12_readsCondition_93 ?_
    refine z_bipush (v := 41) dX12_readsCondition_96 (by decide) ?_
    refine z_icmp_ne (tgt := 152) dX12_readsCondition_98 (by decide) (fun q_4 => ?_) (fun q_4 => ?_)
    · have hf := (if_neg q_4).symm.trans hf
      refine z_aload_n dX12_readsCondition_152 rfl rfl ?_
      obtain ⟨v_5, M_6, c_7, hf⟩ := z_call_some hf
      refine z_cVi (t_X12_here h0 c_7) kw_X12_here lk_X12_129 h0 rfl (by decide) rfl (Nat.le_of_ble_eq_true rfl) ⟨Nat.le_refl 0, Nat.le_refl 0⟩ dX12_readsCondition_153 ?_
      refine z_bipush (v := 38) dX12_readsCondition_156 (by decide) ?_
      refine z_icmp_eq (tgt := 180) dX12_readsCondition_158 (by decide) (fun q_8 => ?_) (fun q_8 => ?_)
      · have hf := (if_pos q_8).symm.trans hf
        exact t_X12_readsCondition_180 h0 hk40 hf
      · have hf := (if_neg q_8).symm.trans hf
        refine z_aload_n dX12_readsCondition_161 rfl rfl ?_
        obtain ⟨v_9, M_10, c_11, hf⟩ := z_call_some hf
        refine z_cVi (t_X12_here h0 c_11) kw_X12_here lk_X12_129 h0 rfl (by decide) rfl (Nat.le_of_ble_eq_true rfl) ⟨Nat.le_refl 0, Nat.le_refl 0⟩ dX12_readsCondition_162 ?_
        refine z_bipush (v := 124) dX12_readsCondition_165 (by decide) ?_
        refine z_icmp_eq (tgt := 180) dX12_readsCondition_167 (by decide) (fun q_12 => ?_) (fun q_12 => ?_)
        · have hf := (if_pos q_12).symm.trans hf
          exact t_X12_readsCondition_180 h0 hk40 hf
        · have hf := (if_neg q_12).symm.trans hf
          refine z_aload_n dX12_readsCondition_170 rfl rfl ?_
          refine z_iconst (v := 1) dX12_readsCondition_171 (by decide) ?_
          refine z_aload_n dX12_readsCondition_172 rfl rfl ?_
          refine zgI fl_X12_123 h0 (fun _ => rfl) dX12_readsCondition_173 ?_
          obtain ⟨v_13, M_14, c_15, hf⟩ := z_call_some hf
          refine z_cVi (t_X12_wrongAt h0 c_15) kw_X12_wrongAt lk_X12_136 h0 rfl (by decide) rfl (Nat.le_of_ble_eq_true rfl) ⟨Nat.le_refl 0, Nat.le_refl 0⟩ dX12_readsCondition_176 ?_
          obtain ⟨g_16, hf⟩ := z_ifs hf
          obtain ⟨rfl, rfl⟩ := z_end hf
          exact z_iret ⟨rfl, rfl, rfl⟩ (Or.inr ⟨rfl, g_16⟩) dX12_readsCondition_179
    · have hf := (if_pos q_4).symm.trans hf
      refine z_aload_n dX12_readsCondition_101 rfl rfl ?_
      refine z_iconst (v := 1) dX12_readsCondition_102 (by decide) ?_
      obtain ⟨v_17, M_18, c_19, hf⟩ := z_call_some hf
      refine z_cVv (t_X12_lands h0 c_19) kw_X12_lands lk_X12_196 h0 rfl (by decide) rfl (Nat.le_of_ble_eq_true rfl) ⟨Nat.le_refl 0, Nat.le_refl 0⟩ dX12_readsCondition_103 ?_
      refine z_aload_n dX12_readsCondition_106 rfl rfl ?_
      refine z_aload_n dX12_readsCondition_107 rfl rfl ?_
      refine zgI fl_X12_154 h0 (fun _ => rfl) dX12_readsCondition_108 ?_
      refine z_iconst (v := 1) dX12_readsCondition_111 (by decide) ?_
      refine z_isub dX12_readsCondition_112 ?_
      obtain ⟨M_20, eM_20, hf⟩ := zl_some hf
      refine zpI fl_X12_154 h0 rfl (Or.inl rfl) eM_20 dX12_readsCondition_113 ?_
      refine z_aload_n dX12_readsCondition_116 rfl rfl ?_
      refine z_aload_n dX12_readsCondition_117 rfl rfl ?_
      refine zgI fl_X12_151 h0 (fun _ => rfl) dX12_readsCondition_118 ?_
      refine z_iconst (v := 1) dX12_readsCondition_121 (by decide) ?_
      refine z_isub dX12_readsCondition_122 ?_
      obtain ⟨M_21, eM_21, hf⟩ := zl_some hf
      refine zpI fl_X12_151 h0 rfl (Or.inl rfl) eM_21 dX12_readsCondition_123 ?_
      refine z_aload_n dX12_readsCondition_126 rfl rfl ?_
      refine z_aload_n dX12_readsCondition_127 rfl rfl ?_
      refine zgI fl_X12_123 h0 (fun _ => rfl) dX12_readsCondition_128 ?_
      refine z_iconst (v := 1) dX12_readsCondition_131 (by decide) ?_
      refine z_iadd dX12_readsCondition_132 ?_
      obtain ⟨M_22, eM_22, hf⟩ := zl_some hf
      refine zpI fl_X12_123 h0 rfl (Or.inl rfl) eM_22 dX12_readsCondition_133 ?_
      refine z_aload_n dX12_readsCondition_136 rfl rfl ?_
      refine zgI fl_X12_154 h0 (fun _ => rfl) dX12_readsCondition_137 ?_
      refine z_if_ne (tgt := 145) dX12_readsCondition_140 (by decide) (fun q_23 => ?_) (fun q_23 => ?_)
      · have hf := (if_neg q_23).symm.trans hf
        refine z_aload_n dX12_readsCondition_145 rfl rfl ?_
        obtain ⟨v_24, M_25, c_26, hf⟩ := z_call_some hf
        refine z_cVv (t_X12_endsPiece h0 c_26) kw_X12_endsPiece lk_X12_190 h0 rfl (by decide) rfl (Nat.le_of_ble_eq_true rfl) ⟨Nat.le_refl 0, Nat.le_refl 0⟩ dX12_readsCondition_146 ?_
        refine z_goto (tgt := 92) dX12_readsCondition_149 (by decide) ?_
        exact ih M_25 hf
      · have hf := (if_pos q_23).symm.trans hf
        refine z_iconst (v := 1) dX12_readsCondition_143 (by decide) ?_
        obtain ⟨rfl, rfl⟩ := z_end hf
        exact z_iret ⟨rfl, rfl, rfl⟩ (Or.inr ⟨rfl, (Or.inr rfl)⟩) dX12_readsCondition_144
noncomputable def f_X12_readsCondition_40 (x0 : Nat) : Nat → zM → Option (Int32 × zM)
  | 0, _ => none
  | n + 1, M =>
    z_call (f_X12_here x0 M) fun v_1 M_2 => (if v_1 = 33 then (f_X12_readsCondition_58 x0 (f_X12_readsCondition_40 x0 n) M_2) else z_call (f_X12_here x0 M_2) fun v_5 M_6 => (if v_5 = 40 then (f_X12_readsCondition_58 x0 (f_X12_readsCondition_40 x0 n) M_6) else z_call (f_X12_readsCompared x0 M_6) fun v_9 M_10 => (if v_9 = 0 then some (0, M_10) else (f_X12_readsCondition_92 x0 (f_X12_readsCondition_40 x0 n) zF M_10))))
set_option maxHeartbeats 2000000 in
set_option maxRecDepth 20000 in
theorem t_X12_readsCondition_40 {l : Launch} {x0 : Nat} {MO : zM} {v : Int32} (h0 : z_tm SH 11 x0) : ∀ (n : Nat) (M : zM), f_X12_readsCondition_40 x0 n M = some (v, MO) → zA l yX12_readsCondition cX12_readsCondition 1 (some .boolean) 7 0 0 SH.length (zDi SH v MO) 0 0 40 [(0, .ref x0)] [] SH M := by
  intro n
  induction n with
  | zero =>
    intro M hf
    rw [f_X12_readsCondition_40] at hf
    cases hf
  | succ n ih =>
    intro M hf
    rw [f_X12_readsCondition_40] at hf
    refine z_aload_n dX12_readsCondition_40 rfl rfl ?_
    obtain ⟨v_1, M_2, c_3, hf⟩ := z_call_some hf
    refine z_cVi (t_X12_here h0 c_3) kw_X12_here lk_X12_129 h0 rfl (by decide) rfl (Nat.le_of_ble_eq_true rfl) ⟨Nat.le_refl 0, Nat.le_refl 0⟩ dX12_readsCondition_41 ?_
    refine z_bipush (v := 33) dX12_readsCondition_44 (by decide) ?_
    refine z_icmp_eq (tgt := 58) dX12_readsCondition_46 (by decide) (fun q_4 => ?_) (fun q_4 => ?_)
    · have hf := (if_pos q_4).symm.trans hf
      exact t_X12_readsCondition_58 h0 ih hf
    · have hf := (if_neg q_4).symm.trans hf
      refine z_aload_n dX12_readsCondition_49 rfl rfl ?_
      obtain ⟨v_5, M_6, c_7, hf⟩ := z_call_some hf
      refine z_cVi (t_X12_here h0 c_7) kw_X12_here lk_X12_129 h0 rfl (by decide) rfl (Nat.le_of_ble_eq_true rfl) ⟨Nat.le_refl 0, Nat.le_refl 0⟩ dX12_readsCondition_50 ?_
      refine z_bipush (v := 40) dX12_readsCondition_53 (by decide) ?_
      refine z_icmp_ne (tgt := 83) dX12_readsCondition_55 (by decide) (fun q_8 => ?_) (fun q_8 => ?_)
      · have hf := (if_neg q_8).symm.trans hf
        refine z_aload_n dX12_readsCondition_83 rfl rfl ?_
        obtain ⟨v_9, M_10, c_11, hf⟩ := z_call_some hf
        refine z_cVi (t_X12_readsCompared h0 c_11) kw_X12_readsCompared lk_X12_193 h0 rfl (by decide) rfl (Nat.le_of_ble_eq_true rfl) ⟨Nat.le_refl 0, Nat.le_refl 0⟩ dX12_readsCondition_84 ?_
        refine z_if_ne (tgt := 92) dX12_readsCondition_87 (by decide) (fun q_12 => ?_) (fun q_12 => ?_)
        · have hf := (if_neg q_12).symm.trans hf
          exact t_X12_readsCondition_92 h0 ih zF M_10 hf
        · have hf := (if_pos q_12).symm.trans hf
          refine z_iconst (v := 0) dX12_readsCondition_90 (by decide) ?_
          obtain ⟨rfl, rfl⟩ := z_end hf
          exact z_iret ⟨rfl, rfl, rfl⟩ (Or.inr ⟨rfl, (Or.inl rfl)⟩) dX12_readsCondition_91
      · have hf := (if_pos q_8).symm.trans hf
        exact t_X12_readsCondition_58 h0 ih hf
noncomputable def f_X12_readsCondition (x0 : Nat) (M : zM) : Option (Int32 × zM) :=
  z_call (f_X12_here x0 M) fun v_1 M_2 => (if v_1 = 40 then zl (zu M_2.1 x0 9 0, M_2.2) fun M_5 => zl (zu M_5.1 x0 11 0, M_5.2) fun M_6 => z_call (f_X12_opens x0 13 M_6) fun v_7 M_8 => (if v_7 = 0 then some (0, M_8) else (f_X12_readsCondition_40 x0 zF M_8)) else z_call (f_X12_wrongAt x0 1 (M_2.1 x0 5) M_2) fun v_11 M_12 => if ((v_11 : Int32) = 0 ∨ (v_11 : Int32) = 1) then some (v_11, M_12) else none)
set_option maxHeartbeats 2000000 in
set_option maxRecDepth 20000 in
theorem t_X12_readsCondition {l : Launch} {x0 : Nat} {M MO : zM} {v : Int32} (h0 : z_tm SH 11 x0) (hf : f_X12_readsCondition x0 M = some (v, MO)) : zMet l yX12_readsCondition cX12_readsCondition 1 (some .boolean) 7 0 0 [.ref x0] SH M (zDi SH v MO) := by
  refine zMet.of (by decide +kernel) (Nat.le_of_ble_eq_true rfl) (Or.inr (Or.inr (Or.inl rfl))) ?_
  show zA l yX12_readsCondition cX12_readsCondition 1 (some .boolean) 7 0 0 SH.length (zDi SH v MO) 0 0 0 [(0, .ref x0)] [] SH M
  unfold f_X12_readsCondition at hf
  refine z_aload_n dX12_readsCondition_0 rfl rfl ?_
  obtain ⟨v_1, M_2, c_3, hf⟩ := z_call_some hf
  refine z_cVi (t_X12_here h0 c_3) kw_X12_here lk_X12_129 h0 rfl (by decide) rfl (Nat.le_of_ble_eq_true rfl) ⟨Nat.le_refl 0, Nat.le_refl 0⟩ dX12_readsCondition_1 ?_
  refine z_bipush (v := 40) dX12_readsCondition_4 (by decide) ?_
  refine z_icmp_eq (tgt := 19) dX12_readsCondition_6 (by decide) (fun q_4 => ?_) (fun q_4 => ?_)
  · have hf := (if_pos q_4).symm.trans hf
    refine z_aload_n dX12_readsCondition_19 rfl rfl ?_
    refine z_iconst (v := 0) dX12_readsCondition_20 (by decide) ?_
    obtain ⟨M_5, eM_5, hf⟩ := zl_some hf
    refine zpI fl_X12_151 h0 rfl (Or.inl rfl) eM_5 dX12_readsCondition_21 ?_
    refine z_aload_n dX12_readsCondition_24 rfl rfl ?_
    refine z_iconst (v := 0) dX12_readsCondition_25 (by decide) ?_
    obtain ⟨M_6, eM_6, hf⟩ := zl_some hf
    refine zpI fl_X12_154 h0 rfl (Or.inl rfl) eM_6 dX12_readsCondition_26 ?_
    refine z_aload_n dX12_readsCondition_29 rfl rfl ?_
    refine z_bipush (v := 13) dX12_readsCondition_30 (by decide) ?_
    obtain ⟨v_7, M_8, c_9, hf⟩ := z_call_some hf
    refine z_cVi (t_X12_opens h0 c_9) kw_X12_opens lk_X12_164 h0 rfl (by decide) rfl (Nat.le_of_ble_eq_true rfl) ⟨Nat.le_refl 0, Nat.le_refl 0⟩ dX12_readsCondition_32 ?_
    refine z_if_ne (tgt := 40) dX12_readsCondition_35 (by decide) (fun q_10 => ?_) (fun q_10 => ?_)
    · have hf := (if_neg q_10).symm.trans hf
      exact t_X12_readsCondition_40 h0 zF M_8 hf
    · have hf := (if_pos q_10).symm.trans hf
      refine z_iconst (v := 0) dX12_readsCondition_38 (by decide) ?_
      obtain ⟨rfl, rfl⟩ := z_end hf
      exact z_iret ⟨rfl, rfl, rfl⟩ (Or.inr ⟨rfl, (Or.inl rfl)⟩) dX12_readsCondition_39
  · have hf := (if_neg q_4).symm.trans hf
    refine z_aload_n dX12_readsCondition_9 rfl rfl ?_
    refine z_iconst (v := 1) dX12_readsCondition_10 (by decide) ?_
    refine z_aload_n dX12_readsCondition_11 rfl rfl ?_
    refine zgI fl_X12_123 h0 (fun _ => rfl) dX12_readsCondition_12 ?_
    obtain ⟨v_11, M_12, c_13, hf⟩ := z_call_some hf
    refine z_cVi (t_X12_wrongAt h0 c_13) kw_X12_wrongAt lk_X12_136 h0 rfl (by decide) rfl (Nat.le_of_ble_eq_true rfl) ⟨Nat.le_refl 0, Nat.le_refl 0⟩ dX12_readsCondition_15 ?_
    obtain ⟨g_14, hf⟩ := z_ifs hf
    obtain ⟨rfl, rfl⟩ := z_end hf
    exact z_iret ⟨rfl, rfl, rfl⟩ (Or.inr ⟨rfl, g_14⟩) dX12_readsCondition_18
noncomputable def f_X12_readsRule_116 (x0 : Nat) (M : zM) : Option (Int32 × zM) :=
  z_rd (M.2.1 x0 18) fun a_1 => if z_ix (M.1 x0 12) (z_ln SH a_1) = true then zl (zu M.1 a_1 ((M.1 x0 12) : Int32).toNatClampNeg (M.1 x0 10), M.2) fun M_3 => z_call (f_X12_readsCondition x0 M_3) fun v_4 M_5 => (if v_4 = 0 then some (0, M_5) else z_rd (M_5.2.1 x0 19) fun a_8 => if z_ix (M_5.1 x0 12) (z_ln SH a_8) = true then zl (zu M_5.1 a_8 ((M_5.1 x0 12) : Int32).toNatClampNeg (M_5.1 x0 10), M_5.2) fun M_10 => zl (zu M_10.1 x0 12 ((M_10.1 x0 12) + 1), M_10.2) fun M_11 => some (1, M_11) else none) else none
set_option maxHeartbeats 2000000 in
set_option maxRecDepth 20000 in
theorem t_X12_readsRule_116 {l : Launch} {x0 : Nat} {M MO : zM} {v : Int32} (h0 : z_tm SH 11 x0) (hf : f_X12_readsRule_116 x0 M = some (v, MO)) : zA l yX12_readsRule cX12_readsRule 2 (some .boolean) 8 0 0 SH.length (zDi SH v MO) 0 0 116 [(0, .ref x0)] [] SH M := by
  unfold f_X12_readsRule_116 at hf
  refine z_aload_n dX12_readsRule_116 rfl rfl ?_
  obtain ⟨a_1, ra_1, hf⟩ := z_rd_some hf
  refine zgR fl_X12_35 h0 (fun _ => rfl) ra_1 dX12_readsRule_117 (fun ha_1 => ?_)
  refine z_aload_n dX12_readsRule_120 rfl rfl ?_
  refine zgI fl_X12_202 h0 (fun _ => rfl) dX12_readsRule_121 ?_
  refine z_aload_n dX12_readsRule_124 rfl rfl ?_
  refine zgI fl_X12_147 h0 (fun _ => rfl) dX12_readsRule_125 ?_
  obtain ⟨g_2, hf⟩ := z_ifs hf
  obtain ⟨M_3, eM_3, hf⟩ := zl_some hf
  refine z_iast ha_1 g_2 eM_3 dX12_readsRule_128 ?_
  refine z_aload_n dX12_readsRule_129 rfl rfl ?_
  obtain ⟨v_4, M_5, c_6, hf⟩ := z_call_some hf
  refine z_cVi (t_X12_readsCondition h0 c_6) kw_X12_readsCondition lk_X12_205 h0 rfl (by decide) rfl (Nat.le_of_ble_eq_true rfl) ⟨Nat.le_refl 0, Nat.le_refl 0⟩ dX12_readsRule_130 ?_
  refine z_if_ne (tgt := 138) dX12_readsRule_133 (by decide) (fun q_7 => ?_) (fun q_7 => ?_)
  · have hf := (if_neg q_7).symm.trans hf
    refine z_aload_n dX12_readsRule_138 rfl rfl ?_
    obtain ⟨a_8, ra_8, hf⟩ := z_rd_some hf
    refine zgR fl_X12_38 h0 (fun _ => rfl) ra_8 dX12_readsRule_139 (fun ha_8 => ?_)
    refine z_aload_n dX12_readsRule_142 rfl rfl ?_
    refine zgI fl_X12_202 h0 (fun _ => rfl) dX12_readsRule_143 ?_
    refine z_aload_n dX12_readsRule_146 rfl rfl ?_
    refine zgI fl_X12_147 h0 (fun _ => rfl) dX12_readsRule_147 ?_
    obtain ⟨g_9, hf⟩ := z_ifs hf
    obtain ⟨M_10, eM_10, hf⟩ := zl_some hf
    refine z_iast ha_8 g_9 eM_10 dX12_readsRule_150 ?_
    refine z_aload_n dX12_readsRule_151 rfl rfl ?_
    refine z_aload_n dX12_readsRule_152 rfl rfl ?_
    refine zgI fl_X12_202 h0 (fun _ => rfl) dX12_readsRule_153 ?_
    refine z_iconst (v := 1) dX12_readsRule_156 (by decide) ?_
    refine z_iadd dX12_readsRule_157 ?_
    obtain ⟨M_11, eM_11, hf⟩ := zl_some hf
    refine zpI fl_X12_202 h0 rfl (Or.inl rfl) eM_11 dX12_readsRule_158 ?_
    refine z_iconst (v := 1) dX12_readsRule_161 (by decide) ?_
    obtain ⟨rfl, rfl⟩ := z_end hf
    exact z_iret ⟨rfl, rfl, rfl⟩ (Or.inr ⟨rfl, (Or.inr rfl)⟩) dX12_readsRule_162
  · have hf := (if_pos q_7).symm.trans hf
    refine z_iconst (v := 0) dX12_readsRule_136 (by decide) ?_
    obtain ⟨rfl, rfl⟩ := z_end hf
    exact z_iret ⟨rfl, rfl, rfl⟩ (Or.inr ⟨rfl, (Or.inl rfl)⟩) dX12_readsRule_137
noncomputable def f_X12_readsRule_39 (x0 : Nat) (x1 : Int32) (M : zM) : Option (Int32 × zM) :=
  (if (M.1 x0 12) = 16 then z_call (f_X12_wrongAt x0 4 (M.1 x0 5) M) fun v_16 M_17 => if ((v_16 : Int32) = 0 ∨ (v_16 : Int32) = 1) then some (v_16, M_17) else none else z_rd (M.2.1 x0 16) fun a_2 => if z_ix (M.1 x0 12) (z_ln SH a_2) = true then zl (zu M.1 a_2 ((M.1 x0 12) : Int32).toNatClampNeg x1, M.2) fun M_4 => zl (zu M_4.1 x0 5 ((M_4.1 x0 5) + 1), M_4.2) fun M_5 => z_rd (M_5.2.1 x0 17) fun a_6 => if z_ix (M_5.1 x0 12) (z_ln SH a_6) = true then zl (zu M_5.1 a_6 ((M_5.1 x0 12) : Int32).toNatClampNeg (M_5.1 x0 10), M_5.2) fun M_8 => zl (zu M_8.1 x0 9 0, M_8.2) fun M_9 => zl (zu M_9.1 x0 11 0, M_9.2) fun M_10 => (if x1 = 120 then (f_X12_readsRule_116 x0 M_10) else z_call (f_X12_readsSum x0 M_10) fun v_12 M_13 => (if v_12 = 0 then some (0, M_13) else (f_X12_readsRule_116 x0 M_13))) else none else none)
set_option maxHeartbeats 2000000 in
set_option maxRecDepth 20000 in
theorem t_X12_readsRule_39 {l : Launch} {x0 : Nat} {x1 : Int32} {M MO : zM} {v : Int32} (h0 : z_tm SH 11 x0) (hf : f_X12_readsRule_39 x0 x1 M = some (v, MO)) : zA l yX12_readsRule cX12_readsRule 2 (some .boolean) 8 0 0 SH.length (zDi SH v MO) 0 0 39 [(0, .ref x0), (1, .int x1)] [] SH M := by
  unfold f_X12_readsRule_39 at hf
  refine z_aload_n dX12_readsRule_39 rfl rfl ?_
  refine zgI fl_X12_202 h0 (fun _ => rfl) dX12_readsRule_40 ?_
  refine z_bipush (v := 16) dX12_readsRule_43 (by decide) ?_
  refine z_icmp_ne (tgt := 58) dX12_readsRule_45 (by decide) (fun q_1 => ?_) (fun q_1 => ?_)
  · have hf := (if_neg q_1).symm.trans hf
    refine z_aload_n dX12_readsRule_58 rfl rfl ?_
    obtain ⟨a_2, ra_2, hf⟩ := z_rd_some hf
    refine zgR fl_X12_29 h0 (fun _ => rfl) ra_2 dX12_readsRule_59 (fun ha_2 => ?_)
    refine z_aload_n dX12_readsRule_62 rfl rfl ?_
    refine zgI fl_X12_202 h0 (fun _ => rfl) dX12_readsRule_63 ?_
    refine z_iload_n dX12_readsRule_66 rfl rfl ?_
    obtain ⟨g_3, hf⟩ := z_ifs hf
    obtain ⟨M_4, eM_4, hf⟩ := zl_some hf
    refine z_iast ha_2 g_3 eM_4 dX12_readsRule_67 ?_
    refine z_aload_n dX12_readsRule_68 rfl rfl ?_
    refine z_aload_n dX12_readsRule_69 rfl rfl ?_
    refine zgI fl_X12_123 h0 (fun _ => rfl) dX12_readsRule_70 ?_
    refine z_iconst (v := 1) dX12_readsRule_73 (by decide) ?_
    refine z_iadd dX12_readsRule_74 ?_
    obtain ⟨M_5, eM_5, hf⟩ := zl_some hf
    refine zpI fl_X12_123 h0 rfl (Or.inl rfl) eM_5 dX12_readsRule_75 ?_
    refine z_aload_n dX12_readsRule_78 rfl rfl ?_
    obtain ⟨a_6, ra_6, hf⟩ := z_rd_some hf
    refine zgR fl_X12_32 h0 (fun _ => rfl) ra_6 dX12_readsRule_79 (fun ha_6 => ?_)
    refine z_aload_n dX12_readsRule_82 rfl rfl ?_
    refine zgI fl_X12_202 h0 (fun _ => rfl) dX12_readsRule_83 ?_
    refine z_aload_n dX12_readsRule_86 rfl rfl ?_
    refine zgI fl_X12_147 h0 (fun _ => rfl) dX12_readsRule_87 ?_
    obtain ⟨g_7, hf⟩ := z_ifs hf
    obtain ⟨M_8, eM_8, hf⟩ := zl_some hf
    refine z_iast ha_6 g_7 eM_8 dX12_readsRule_90 ?_
    refine z_aload_n dX12_readsRule_91 rfl rfl ?_
    refine z_iconst (v := 0) dX12_readsRule_92 (by decide) ?_
    obtain ⟨M_9, eM_9, hf⟩ := zl_some hf
    refine zpI fl_X12_151 h0 rfl (Or.inl rfl) eM_9 dX12_readsRule_93 ?_
    refine z_aload_n dX12_readsRule_96 rfl rfl ?_
    refine z_iconst (v := 0) dX12_readsRule_97 (by decide) ?_
    obtain ⟨M_10, eM_10, hf⟩ := zl_some hf
    refine zpI fl_X12_154 h0 rfl (Or.inl rfl) eM_10 dX12_readsRule_98 ?_
    refine z_iload_n dX12_readsRule_101 rfl rfl ?_
    refine z_bipush (v := 120) dX12_readsRule_102 (by decide) ?_
    refine z_icmp_eq (tgt := 116) dX12_readsRule_104 (by decide) (fun q_11 => ?_) (fun q_11 => ?_)
    · have hf := (if_pos q_11).symm.trans hf
      refine zA.pick [(0, .ref x0)] [0] rfl ?_
      exact t_X12_readsRule_116 h0 hf
    · have hf := (if_neg q_11).symm.trans hf
      refine z_aload_n dX12_readsRule_107 rfl rfl ?_
      obtain ⟨v_12, M_13, c_14, hf⟩ := z_call_some hf
      refine z_cVi (t_X12_readsSum h0 c_14) kw_X12_readsSum lk_X12_187 h0 rfl (by decide) rfl (Nat.le_of_ble_eq_true rfl) ⟨Nat.le_refl 0, Nat.le_refl 0⟩ dX12_readsRule_108 ?_
      refine z_if_ne (tgt := 116) dX12_readsRule_111 (by decide) (fun q_15 => ?_) (fun q_15 => ?_)
      · have hf := (if_neg q_15).symm.trans hf
        refine zA.pick [(0, .ref x0)] [0] rfl ?_
        exact t_X12_readsRule_116 h0 hf
      · have hf := (if_pos q_15).symm.trans hf
        refine z_iconst (v := 0) dX12_readsRule_114 (by decide) ?_
        obtain ⟨rfl, rfl⟩ := z_end hf
        exact z_iret ⟨rfl, rfl, rfl⟩ (Or.inr ⟨rfl, (Or.inl rfl)⟩) dX12_readsRule_115
  · have hf := (if_pos q_1).symm.trans hf
    refine z_aload_n dX12_readsRule_48 rfl rfl ?_
    refine z_iconst (v := 4) dX12_readsRule_49 (by decide) ?_
    refine z_aload_n dX12_readsRule_50 rfl rfl ?_
    refine zgI fl_X12_123 h0 (fun _ => rfl) dX12_readsRule_51 ?_
    obtain ⟨v_16, M_17, c_18, hf⟩ := z_call_some hf
    refine z_cVi (t_X12_wrongAt h0 c_18) kw_X12_wrongAt lk_X12_136 h0 rfl (by decide) rfl (Nat.le_of_ble_eq_true rfl) ⟨Nat.le_refl 0, Nat.le_refl 0⟩ dX12_readsRule_54 ?_
    obtain ⟨g_19, hf⟩ := z_ifs hf
    obtain ⟨rfl, rfl⟩ := z_end hf
    exact z_iret ⟨rfl, rfl, rfl⟩ (Or.inr ⟨rfl, g_19⟩) dX12_readsRule_57
noncomputable def f_X12_readsRule (x0 : Nat) (M : zM) : Option (Int32 × zM) :=
  z_call (f_X12_here x0 M) fun v_1 M_2 => (if v_1 = 99 then (f_X12_readsRule_39 x0 v_1 M_2) else (if v_1 = 107 then (f_X12_readsRule_39 x0 v_1 M_2) else (if v_1 = 100 then (f_X12_readsRule_39 x0 v_1 M_2) else (if v_1 = 120 then (f_X12_readsRule_39 x0 v_1 M_2) else z_call (f_X12_wrongAt x0 1 (M_2.1 x0 5) M_2) fun v_8 M_9 => if ((v_8 : Int32) = 0 ∨ (v_8 : Int32) = 1) then some (v_8, M_9) else none))))
set_option maxHeartbeats 2000000 in
set_option maxRecDepth 20000 in
theorem t_X12_readsRule {l : Launch} {x0 : Nat} {M MO : zM} {v : Int32} (h0 : z_tm SH 11 x0) (hf : f_X12_readsRule x0 M = some (v, MO)) : zMet l yX12_readsRule cX12_readsRule 2 (some .boolean) 8 0 0 [.ref x0] SH M (zDi SH v MO) := by
  refine zMet.of (by decide +kernel) (Nat.le_of_ble_eq_true rfl) (Or.inr (Or.inr (Or.inl rfl))) ?_
  show zA l yX12_readsRule cX12_readsRule 2 (some .boolean) 8 0 0 SH.length (zDi SH v MO) 0 0 0 [(0, .ref x0)] [] SH M
  unfold f_X12_readsRule at hf
  refine z_aload_n dX12_readsRule_0 rfl rfl ?_
  obtain ⟨v_1, M_2, c_3, hf⟩ := z_call_some hf
  refine z_cVi (t_X12_here h0 c_3) kw_X12_here lk_X12_129 h0 rfl (by decide) rfl (Nat.le_of_ble_eq_true rfl) ⟨Nat.le_refl 0, Nat.le_refl 0⟩ dX12_readsRule_1 ?_
  refine z_istore_n' (lv' := [(1, .int v_1), (0, .ref x0)]) rfl dX12_readsRule_4 (by decide) rfl rfl ?_
  refine z_iload_n dX12_readsRule_5 rfl rfl ?_
  refine z_bipush (v := 99) dX12_readsRule_6 (by decide) ?_
  refine z_icmp_eq (tgt := 39) dX12_readsRule_8 (by decide) (fun q_4 => ?_) (fun q_4 => ?_)
  · have hf := (if_pos q_4).symm.trans hf
    refine zA.pick [(0, .ref x0), (1, .int v_1)] [1, 0] rfl ?_
    exact t_X12_readsRule_39 h0 hf
  · have hf := (if_neg q_4).symm.trans hf
    refine z_iload_n dX12_readsRule_11 rfl rfl ?_
    refine z_bipush (v := 107) dX12_readsRule_12 (by decide) ?_
    refine z_icmp_eq (tgt := 39) dX12_readsRule_14 (by decide) (fun q_5 => ?_) (fun q_5 => ?_)
    · have hf := (if_pos q_5).symm.trans hf
      refine zA.pick [(0, .ref x0), (1, .int v_1)] [1, 0] rfl ?_
      exact t_X12_readsRule_39 h0 hf
    · have hf := (if_neg q_5).symm.trans hf
      refine z_iload_n dX12_readsRule_17 rfl rfl ?_
      refine z_bipush (v := 100) dX12_readsRule_18 (by decide) ?_
      refine z_icmp_eq (tgt := 39) dX12_readsRule_20 (by decide) (fun q_6 => ?_) (fun q_6 => ?_)
      · have hf := (if_pos q_6).symm.trans hf
        refine zA.pick [(0, .ref x0), (1, .int v_1)] [1, 0] rfl ?_
        exact t_X12_readsRule_39 h0 hf
      · have hf := (if_neg q_6).symm.trans hf
        refine z_iload_n dX12_readsRule_23 rfl rfl ?_
        refine z_bipush (v := 120) dX12_readsRule_24 (by decide) ?_
        refine z_icmp_eq (tgt := 39) dX12_readsRule_26 (by decide) (fun q_7 => ?_) (fun q_7 => ?_)
        · have hf := (if_pos q_7).symm.trans hf
          refine zA.pick [(0, .ref x0), (1, .int v_1)] [1, 0] rfl ?_
          exact t_X12_readsRule_39 h0 hf
        · have hf := (if_neg q_7).symm.trans hf
          refine z_aload_n dX12_readsRule_29 rfl rfl ?_
          refine z_iconst (v := 1) dX12_readsRule_30 (by decide) ?_
          refine z_aload_n dX12_readsRule_31 rfl rfl ?_
          refine zgI fl_X12_123 h0 (fun _ => rfl) dX12_readsRule_32 ?_
          obtain ⟨v_8, M_9, c_10, hf⟩ := z_call_some hf
          refine z_cVi (t_X12_wrongAt h0 c_10) kw_X12_wrongAt lk_X12_136 h0 rfl (by decide) rfl (Nat.le_of_ble_eq_true rfl) ⟨Nat.le_refl 0, Nat.le_refl 0⟩ dX12_readsRule_35 ?_
          obtain ⟨g_11, hf⟩ := z_ifs hf
          obtain ⟨rfl, rfl⟩ := z_end hf
          exact z_iret ⟨rfl, rfl, rfl⟩ (Or.inr ⟨rfl, g_11⟩) dX12_readsRule_38
noncomputable def f_X12_beginsText (x0 : Nat) (x1 : Int32) (M : zM) : Option (Unit × zM) :=
  zl (zu M.1 x0 5 0, M.2) fun M_1 => zl (zu M_1.1 x0 6 x1, M_1.2) fun M_2 => zl (zu M_2.1 x0 10 0, M_2.2) fun M_3 => zl (zu M_3.1 x0 12 0, M_3.2) fun M_4 => some ((), M_4)
set_option maxHeartbeats 2000000 in
set_option maxRecDepth 20000 in
theorem t_X12_beginsText {l : Launch} {x0 : Nat} {x1 : Int32} {M MO : zM} {v : Unit} (h0 : z_tm SH 11 x0) (hf : f_X12_beginsText x0 x1 M = some (v, MO)) : zMet l yX12_beginsText cX12_beginsText 2 none 1 0 0 [.ref x0, .int x1] SH M (zDv SH MO) := by
  refine zMet.of (by decide +kernel) (Nat.le_of_ble_eq_true rfl) (Or.inl rfl) ?_
  show zA l yX12_beginsText cX12_beginsText 2 none 1 0 0 SH.length (zDv SH MO) 0 0 0 [(0, .ref x0), (1, .int x1)] [] SH M
  unfold f_X12_beginsText at hf
  refine z_aload_n dX12_beginsText_0 rfl rfl ?_
  refine z_iconst (v := 0) dX12_beginsText_1 (by decide) ?_
  obtain ⟨M_1, eM_1, hf⟩ := zl_some hf
  refine zpI fl_X12_123 h0 rfl (Or.inl rfl) eM_1 dX12_beginsText_2 ?_
  refine z_aload_n dX12_beginsText_5 rfl rfl ?_
  refine z_iload_n dX12_beginsText_6 rfl rfl ?_
  obtain ⟨M_2, eM_2, hf⟩ := zl_some hf
  refine zpI fl_X12_126 h0 rfl (Or.inl rfl) eM_2 dX12_beginsText_7 ?_
  refine z_aload_n dX12_beginsText_10 rfl rfl ?_
  refine z_iconst (v := 0) dX12_beginsText_11 (by decide) ?_
  obtain ⟨M_3, eM_3, hf⟩ := zl_some hf
  refine zpI fl_X12_147 h0 rfl (Or.inl rfl) eM_3 dX12_beginsText_12 ?_
  refine z_aload_n dX12_beginsText_15 rfl rfl ?_
  refine z_iconst (v := 0) dX12_beginsText_16 (by decide) ?_
  obtain ⟨M_4, eM_4, hf⟩ := zl_some hf
  refine zpI fl_X12_202 h0 rfl (Or.inl rfl) eM_4 dX12_beginsText_17 ?_
  obtain ⟨rfl, rfl⟩ := z_end hf
  exact z_vret ⟨rfl, rfl, rfl⟩ rfl dX12_beginsText_20
noncomputable def f_X12_law_123 (x0 : Nat) : Nat → Int32 → zM → Option (Int32 × zM)
  | 0, _, _ => none
  | n + 1, x3, M =>
    (if (M.1 x0 12) ≤ x3 then some ((M.1 x0 12), M) else z_rd (M.2.1 x0 21) fun a_2 => z_rd (M.2.1 x0 16) fun a_3 => if z_ix x3 (z_ln SH a_3) = true then if z_ix x3 (z_ln SH a_2) = true then zl (zu M.1 a_2 (x3 : Int32).toNatClampNeg (M.1 a_3 (x3 : Int32).toNatClampNeg), M.2) fun M_6 => z_rd (M_6.2.1 x0 22) fun a_7 => z_rd (M_6.2.1 x0 17) fun a_8 => if z_ix x3 (z_ln SH a_8) = true then if z_ix x3 (z_ln SH a_7) = true then zl (zu M_6.1 a_7 (x3 : Int32).toNatClampNeg (M_6.1 a_8 (x3 : Int32).toNatClampNeg), M_6.2) fun M_11 => z_rd (M_11.2.1 x0 23) fun a_12 => z_rd (M_11.2.1 x0 18) fun a_13 => if z_ix x3 (z_ln SH a_13) = true then if z_ix x3 (z_ln SH a_12) = true then zl (zu M_11.1 a_12 (x3 : Int32).toNatClampNeg (M_11.1 a_13 (x3 : Int32).toNatClampNeg), M_11.2) fun M_16 => z_rd (M_16.2.1 x0 24) fun a_17 => z_rd (M_16.2.1 x0 19) fun a_18 => if z_ix x3 (z_ln SH a_18) = true then if z_ix x3 (z_ln SH a_17) = true then zl (zu M_16.1 a_17 (x3 : Int32).toNatClampNeg (M_16.1 a_18 (x3 : Int32).toNatClampNeg), M_16.2) fun M_21 => zl (x3 + 1) fun x3_22 => (f_X12_law_123 x0 n x3_22 M_21) else none else none else none else none else none else none else none else none)
set_option maxHeartbeats 2000000 in
set_option maxRecDepth 20000 in
theorem t_X12_law_123 {l : Launch} {x0 : Nat} {MO : zM} {v : Int32} (h0 : z_tm SH 11 x0) : ∀ (n : Nat) (x3 : Int32) (M : zM), f_X12_law_123 x0 n x3 M = some (v, MO) → zA l yX12_law cX12_law 4 (some .int) 9 0 0 SH.length (zDi SH v MO) 0 0 123 [(0, .ref x0), (3, .int x3)] [] SH M := by
  intro n
  induction n with
  | zero =>
    intro x3 M hf
    rw [f_X12_law_123] at hf
    cases hf
  | succ n ih =>
    intro x3 M hf
    rw [f_X12_law_123] at hf
    refine z_iload_n dX12_law_123 rfl rfl ?_
    refine z_aload_n dX12_law_124 rfl rfl ?_
    refine zgI fl_X12_202 h0 (fun _ => rfl) dX12_law_125 ?_
    refine z_icmp_ge (tgt := 185) dX12_law_128 (by decide) (fun q_1 => ?_) (fun q_1 => ?_)
    · have hf := (if_pos q_1).symm.trans hf
      refine z_aload_n dX12_law_185 rfl rfl ?_
      refine zgI fl_X12_202 h0 (fun _ => rfl) dX12_law_186 ?_
      obtain ⟨rfl, rfl⟩ := z_end hf
      exact z_iret ⟨rfl, rfl, rfl⟩ (Or.inl rfl) dX12_law_189
    · have hf := (if_neg q_1).symm.trans hf
      refine z_aload_n dX12_law_131 rfl rfl ?_
      obtain ⟨a_2, ra_2, hf⟩ := z_rd_some hf
      refine zgR fl_X12_44 h0 (fun _ => rfl) ra_2 dX12_law_132 (fun ha_2 => ?_)
      refine z_iload_n dX12_law_135 rfl rfl ?_
      refine z_aload_n dX12_law_136 rfl rfl ?_
      obtain ⟨a_3, ra_3, hf⟩ := z_rd_some hf
      refine zgR fl_X12_29 h0 (fun _ => rfl) ra_3 dX12_law_137 (fun ha_3 => ?_)
      refine z_iload_n dX12_law_140 rfl rfl ?_
      obtain ⟨g_4, hf⟩ := z_ifs hf
      refine z_iald ha_3 g_4 rfl dX12_law_141 ?_
      obtain ⟨g_5, hf⟩ := z_ifs hf
      obtain ⟨M_6, eM_6, hf⟩ := zl_some hf
      refine z_iast ha_2 g_5 eM_6 dX12_law_142 ?_
      refine z_aload_n dX12_law_143 rfl rfl ?_
      obtain ⟨a_7, ra_7, hf⟩ := z_rd_some hf
      refine zgR fl_X12_47 h0 (fun _ => rfl) ra_7 dX12_law_144 (fun ha_7 => ?_)
      refine z_iload_n dX12_law_147 rfl rfl ?_
      refine z_aload_n dX12_law_148 rfl rfl ?_
      obtain ⟨a_8, ra_8, hf⟩ := z_rd_some hf
      refine zgR fl_X12_32 h0 (fun _ => rfl) ra_8 dX12_law_149 (fun ha_8 => ?_)
      refine z_iload_n dX12_law_152 rfl rfl ?_
      obtain ⟨g_9, hf⟩ := z_ifs hf
      refine z_iald ha_8 g_9 rfl dX12_law_153 ?_
      obtain ⟨g_10, hf⟩ := z_ifs hf
      obtain ⟨M_11, eM_11, hf⟩ := zl_some hf
      refine z_iast ha_7 g_10 eM_11 dX12_law_154 ?_
      refine z_aload_n dX12_law_155 rfl rfl ?_
      obtain ⟨a_12, ra_12, hf⟩ := z_rd_some hf
      refine zgR fl_X12_50 h0 (fun _ => rfl) ra_12 dX12_law_156 (fun ha_12 => ?_)
      refine z_iload_n dX12_law_159 rfl rfl ?_
      refine z_aload_n dX12_law_160 rfl rfl ?_
      obtain ⟨a_13, ra_13, hf⟩ := z_rd_some hf
      refine zgR fl_X12_35 h0 (fun _ => rfl) ra_13 dX12_law_161 (fun ha_13 => ?_)
      refine z_iload_n dX12_law_164 rfl rfl ?_
      obtain ⟨g_14, hf⟩ := z_ifs hf
      refine z_iald ha_13 g_14 rfl dX12_law_165 ?_
      obtain ⟨g_15, hf⟩ := z_ifs hf
      obtain ⟨M_16, eM_16, hf⟩ := zl_some hf
      refine z_iast ha_12 g_15 eM_16 dX12_law_166 ?_
      refine z_aload_n dX12_law_167 rfl rfl ?_
      obtain ⟨a_17, ra_17, hf⟩ := z_rd_some hf
      refine zgR fl_X12_53 h0 (fun _ => rfl) ra_17 dX12_law_168 (fun ha_17 => ?_)
      refine z_iload_n dX12_law_171 rfl rfl ?_
      refine z_aload_n dX12_law_172 rfl rfl ?_
      obtain ⟨a_18, ra_18, hf⟩ := z_rd_some hf
      refine zgR fl_X12_38 h0 (fun _ => rfl) ra_18 dX12_law_173 (fun ha_18 => ?_)
      refine z_iload_n dX12_law_176 rfl rfl ?_
      obtain ⟨g_19, hf⟩ := z_ifs hf
      refine z_iald ha_18 g_19 rfl dX12_law_177 ?_
      obtain ⟨g_20, hf⟩ := z_ifs hf
      obtain ⟨M_21, eM_21, hf⟩ := zl_some hf
      refine z_iast ha_17 g_20 eM_21 dX12_law_178 ?_
      obtain ⟨x3_22, ex3_22, hf⟩ := zl_some hf
      refine z_iinc' (lv' := [(3, .int x3_22), (0, .ref x0)]) dX12_law_179 rfl (by decide) ex3_22 (by decide) rfl ?_
      refine z_goto (tgt := 123) dX12_law_182 (by decide) ?_
      refine zA.pick [(0, .ref x0), (3, .int x3_22)] [1, 0] rfl ?_
      exact ih x3_22 M_21 hf
noncomputable def f_X12_law_95 (x0 : Nat) : Nat → Int32 → zM → Option (Int32 × zM)
  | 0, _, _ => none
  | n + 1, x3, M =>
    (if (M.1 x0 10) ≤ x3 then (f_X12_law_123 x0 zF 0 M) else z_rd (M.2.1 x0 20) fun a_2 => z_rd (M.2.1 x0 14) fun a_3 => if z_ix x3 (z_ln SH a_3) = true then if z_ix x3 (z_ln SH a_2) = true then zl (zu M.1 a_2 (x3 : Int32).toNatClampNeg (M.1 a_3 (x3 : Int32).toNatClampNeg), M.2) fun M_6 => zl (x3 + 1) fun x3_7 => (f_X12_law_95 x0 n x3_7 M_6) else none else none)
set_option maxHeartbeats 2000000 in
set_option maxRecDepth 20000 in
theorem t_X12_law_95 {l : Launch} {x0 : Nat} {MO : zM} {v : Int32} (h0 : z_tm SH 11 x0) : ∀ (n : Nat) (x3 : Int32) (M : zM), f_X12_law_95 x0 n x3 M = some (v, MO) → zA l yX12_law cX12_law 4 (some .int) 9 0 0 SH.length (zDi SH v MO) 0 0 95 [(0, .ref x0), (3, .int x3)] [] SH M := by
  intro n
  induction n with
  | zero =>
    intro x3 M hf
    rw [f_X12_law_95] at hf
    cases hf
  | succ n ih =>
    intro x3 M hf
    rw [f_X12_law_95] at hf
    refine z_iload_n dX12_law_95 rfl rfl ?_
    refine z_aload_n dX12_law_96 rfl rfl ?_
    refine zgI fl_X12_147 h0 (fun _ => rfl) dX12_law_97 ?_
    refine z_icmp_ge (tgt := 121) dX12_law_100 (by decide) (fun q_1 => ?_) (fun q_1 => ?_)
    · have hf := (if_pos q_1).symm.trans hf
      refine z_iconst (v := 0) dX12_law_121 (by decide) ?_
      refine z_istore_n' (lv' := [(3, .int 0), (0, .ref x0)]) rfl dX12_law_122 (by decide) rfl rfl ?_
      refine zA.pick [(0, .ref x0), (3, .int 0)] [1, 0] rfl ?_
      exact t_X12_law_123 h0 zF 0 M hf
    · have hf := (if_neg q_1).symm.trans hf
      refine z_aload_n dX12_law_103 rfl rfl ?_
      obtain ⟨a_2, ra_2, hf⟩ := z_rd_some hf
      refine zgR fl_X12_41 h0 (fun _ => rfl) ra_2 dX12_law_104 (fun ha_2 => ?_)
      refine z_iload_n dX12_law_107 rfl rfl ?_
      refine z_aload_n dX12_law_108 rfl rfl ?_
      obtain ⟨a_3, ra_3, hf⟩ := z_rd_some hf
      refine zgR fl_X12_23 h0 (fun _ => rfl) ra_3 dX12_law_109 (fun ha_3 => ?_)
      refine z_iload_n dX12_law_112 rfl rfl ?_
      obtain ⟨g_4, hf⟩ := z_ifs hf
      refine z_iald ha_3 g_4 rfl dX12_law_113 ?_
      obtain ⟨g_5, hf⟩ := z_ifs hf
      obtain ⟨M_6, eM_6, hf⟩ := zl_some hf
      refine z_iast ha_2 g_5 eM_6 dX12_law_114 ?_
      obtain ⟨x3_7, ex3_7, hf⟩ := zl_some hf
      refine z_iinc' (lv' := [(3, .int x3_7), (0, .ref x0)]) dX12_law_115 rfl (by decide) ex3_7 (by decide) rfl ?_
      refine z_goto (tgt := 95) dX12_law_118 (by decide) ?_
      refine zA.pick [(0, .ref x0), (3, .int x3_7)] [1, 0] rfl ?_
      exact ih x3_7 M_6 hf
noncomputable def f_X12_law_71 (x0 : Nat) (x2 : Int32) (M : zM) : Option (Int32 × zM) :=
  zl (zu M.1 x0 4 0, M.2) fun M_1 => (if x2 = 0 then some ((M_1.1 x0 7), M_1) else zl (zu M_1.1 x0 13 (M_1.1 x0 12), M_1.2) fun M_3 => (f_X12_law_95 x0 zF 0 M_3))
set_option maxHeartbeats 2000000 in
set_option maxRecDepth 20000 in
theorem t_X12_law_71 {l : Launch} {x0 : Nat} {x2 : Int32} {M MO : zM} {v : Int32} (h0 : z_tm SH 11 x0) (hf : f_X12_law_71 x0 x2 M = some (v, MO)) : zA l yX12_law cX12_law 4 (some .int) 9 0 0 SH.length (zDi SH v MO) 0 0 71 [(0, .ref x0), (2, .int x2)] [] SH M := by
  unfold f_X12_law_71 at hf
  refine z_aload_n dX12_law_71 rfl rfl ?_
  refine z_iconst (v := 0) dX12_law_72 (by decide) ?_
  obtain ⟨M_1, eM_1, hf⟩ := zl_some hf
  refine zpI fl_X12_115 h0 rfl (Or.inl rfl) eM_1 dX12_law_73 ?_
  refine z_iload_n dX12_law_76 rfl rfl ?_
  refine z_if_ne (tgt := 85) dX12_law_77 (by decide) (fun q_2 => ?_) (fun q_2 => ?_)
  · have hf := (if_neg q_2).symm.trans hf
    refine z_aload_n dX12_law_85 rfl rfl ?_
    refine z_aload_n dX12_law_86 rfl rfl ?_
    refine zgI fl_X12_202 h0 (fun _ => rfl) dX12_law_87 ?_
    obtain ⟨M_3, eM_3, hf⟩ := zl_some hf
    refine zpI fl_X12_217 h0 rfl (Or.inl rfl) eM_3 dX12_law_90 ?_
    refine z_iconst (v := 0) dX12_law_93 (by decide) ?_
    refine z_istore_n' (lv' := [(3, .int 0), (0, .ref x0), (2, .int x2)]) rfl dX12_law_94 (by decide) rfl rfl ?_
    refine zA.pick [(0, .ref x0), (3, .int 0)] [1, 0] rfl ?_
    exact t_X12_law_95 h0 zF 0 M_3 hf
  · have hf := (if_pos q_2).symm.trans hf
    refine z_aload_n dX12_law_80 rfl rfl ?_
    refine zgI fl_X12_133 h0 (fun _ => rfl) dX12_law_81 ?_
    obtain ⟨rfl, rfl⟩ := z_end hf
    exact z_iret ⟨rfl, rfl, rfl⟩ (Or.inl rfl) dX12_law_84
noncomputable def f_X12_law_67 (x0 : Nat) (k31 : Int32 → zM → Option (Int32 × zM)) (s0 : Int32) (M : zM) : Option (Int32 × zM) :=
  (k31 s0 M)
set_option maxHeartbeats 2000000 in
set_option maxRecDepth 20000 in
theorem t_X12_law_67 {l : Launch} {x0 : Nat} {k31 : Int32 → zM → Option (Int32 × zM)} {s0 : Int32} {M MO : zM} {v : Int32} (h0 : z_tm SH 11 x0) (hk31 : ∀ (x2 : Int32) (M : zM), k31 x2 M = some (v, MO) → zA l yX12_law cX12_law 4 (some .int) 9 0 0 SH.length (zDi SH v MO) 0 0 31 [(0, .ref x0), (2, .int x2)] [] SH M) (hf : f_X12_law_67 x0 k31 s0 M = some (v, MO)) : zA l yX12_law cX12_law 4 (some .int) 9 0 0 SH.length (zDi SH v MO) 0 0 67 [(0, .ref x0)] [.int s0] SH M := by
  unfold f_X12_law_67 at hf
  refine z_istore_n' (lv' := [(2, .int s0), (0, .ref x0)]) rfl dX12_law_67 (by decide) rfl rfl ?_
  refine z_goto (tgt := 31) dX12_law_68 (by decide) ?_
  refine zA.pick [(0, .ref x0), (2, .int s0)] [1, 0] rfl ?_
  exact hk31 s0 M hf
noncomputable def f_X12_law_66 (x0 : Nat) (k31 : Int32 → zM → Option (Int32 × zM)) (M : zM) : Option (Int32 × zM) :=
  (f_X12_law_67 x0 k31 0 M)
set_option maxHeartbeats 2000000 in
set_option maxRecDepth 20000 in
theorem t_X12_law_66 {l : Launch} {x0 : Nat} {k31 : Int32 → zM → Option (Int32 × zM)} {M MO : zM} {v : Int32} (h0 : z_tm SH 11 x0) (hk31 : ∀ (x2 : Int32) (M : zM), k31 x2 M = some (v, MO) → zA l yX12_law cX12_law 4 (some .int) 9 0 0 SH.length (zDi SH v MO) 0 0 31 [(0, .ref x0), (2, .int x2)] [] SH M) (hf : f_X12_law_66 x0 k31 M = some (v, MO)) : zA l yX12_law cX12_law 4 (some .int) 9 0 0 SH.length (zDi SH v MO) 0 0 66 [(0, .ref x0)] [] SH M := by
  unfold f_X12_law_66 at hf
  refine z_iconst (v := 0) dX12_law_66 (by decide) ?_
  exact t_X12_law_67 h0 hk31 hf
noncomputable def f_X12_law_31 (x0 : Nat) : Nat → Int32 → zM → Option (Int32 × zM)
  | 0, _, _ => none
  | n + 1, x2, M =>
    (if x2 = 0 then (f_X12_law_71 x0 x2 M) else (if (M.1 x0 6) ≤ (M.1 x0 5) then (f_X12_law_71 x0 x2 M) else z_call (f_X12_takes x0 59 M) fun v_3 M_4 => (if v_3 = 0 then (f_X12_law_66 x0 (f_X12_law_31 x0 n) M_4) else z_call (f_X12_readsRule x0 M_4) fun v_7 M_8 => (if v_7 = 0 then (f_X12_law_66 x0 (f_X12_law_31 x0 n) M_8) else (f_X12_law_67 x0 (f_X12_law_31 x0 n) 1 M_8)))))
set_option maxHeartbeats 2000000 in
set_option maxRecDepth 20000 in
theorem t_X12_law_31 {l : Launch} {x0 : Nat} {MO : zM} {v : Int32} (h0 : z_tm SH 11 x0) : ∀ (n : Nat) (x2 : Int32) (M : zM), f_X12_law_31 x0 n x2 M = some (v, MO) → zA l yX12_law cX12_law 4 (some .int) 9 0 0 SH.length (zDi SH v MO) 0 0 31 [(0, .ref x0), (2, .int x2)] [] SH M := by
  intro n
  induction n with
  | zero =>
    intro x2 M hf
    rw [f_X12_law_31] at hf
    cases hf
  | succ n ih =>
    intro x2 M hf
    rw [f_X12_law_31] at hf
    refine z_iload_n dX12_law_31 rfl rfl ?_
    refine z_if_eq (tgt := 71) dX12_law_32 (by decide) (fun q_1 => ?_) (fun q_1 => ?_)
    · have hf := (if_pos q_1).symm.trans hf
      exact t_X12_law_71 h0 hf
    · have hf := (if_neg q_1).symm.trans hf
      refine z_aload_n dX12_law_35 rfl rfl ?_
      refine zgI fl_X12_123 h0 (fun _ => rfl) dX12_law_36 ?_
      refine z_aload_n dX12_law_39 rfl rfl ?_
      refine zgI fl_X12_126 h0 (fun _ => rfl) dX12_law_40 ?_
      refine z_icmp_ge (tgt := 71) dX12_law_43 (by decide) (fun q_2 => ?_) (fun q_2 => ?_)
      · have hf := (if_pos q_2).symm.trans hf
        exact t_X12_law_71 h0 hf
      · have hf := (if_neg q_2).symm.trans hf
        refine z_aload_n dX12_law_46 rfl rfl ?_
        refine z_bipush (v := 59) dX12_law_47 (by decide) ?_
        obtain ⟨v_3, M_4, c_5, hf⟩ := z_call_some hf
        refine z_cVi (t_X12_takes h0 c_5) kw_X12_takes lk_X12_214 h0 rfl (by decide) rfl (Nat.le_of_ble_eq_true rfl) ⟨Nat.le_refl 0, Nat.le_refl 0⟩ dX12_law_49 ?_
        refine z_if_eq (tgt := 66) dX12_law_52 (by decide) (fun q_6 => ?_) (fun q_6 => ?_)
        · have hf := (if_pos q_6).symm.trans hf
          refine zA.pick [(0, .ref x0)] [0] rfl ?_
          exact t_X12_law_66 h0 ih hf
        · have hf := (if_neg q_6).symm.trans hf
          refine z_aload_n dX12_law_55 rfl rfl ?_
          obtain ⟨v_7, M_8, c_9, hf⟩ := z_call_some hf
          refine z_cVi (t_X12_readsRule h0 c_9) kw_X12_readsRule lk_X12_211 h0 rfl (by decide) rfl (Nat.le_of_ble_eq_true rfl) ⟨Nat.le_refl 0, Nat.le_refl 0⟩ dX12_law_56 ?_
          refine z_if_eq (tgt := 66) dX12_law_59 (by decide) (fun q_10 => ?_) (fun q_10 => ?_)
          · have hf := (if_pos q_10).symm.trans hf
            refine zA.pick [(0, .ref x0)] [0] rfl ?_
            exact t_X12_law_66 h0 ih hf
          · have hf := (if_neg q_10).symm.trans hf
            refine z_iconst (v := 1) dX12_law_62 (by decide) ?_
            refine z_goto (tgt := 67) dX12_law_63 (by decide) ?_
            refine zA.pick [(0, .ref x0)] [0] rfl ?_
            exact t_X12_law_67 h0 ih hf
noncomputable def f_X12_law (x0 : Nat) (x1 : Int32) (M : zM) : Option (Int32 × zM) :=
  z_call (f_X12_in x1 1 240 M) fun v_1 M_2 => (if v_1 = 0 then some ((-1), M_2) else (if x1 ≤ (M_2.1 x0 4) then z_call (f_X12_beginsText x0 x1 M_2) fun v_6 M_7 => z_call (f_X12_readsRule x0 M_7) fun v_9 M_10 => (f_X12_law_31 x0 zF v_9 M_10) else some ((-1), M_2)))
set_option maxHeartbeats 2000000 in
set_option maxRecDepth 20000 in
theorem t_X12_law {l : Launch} {x0 : Nat} {x1 : Int32} {M MO : zM} {v : Int32} (h0 : z_tm SH 11 x0) (hf : f_X12_law x0 x1 M = some (v, MO)) : zMet l yX12_law cX12_law 4 (some .int) 9 0 0 [.ref x0, .int x1] SH M (zDi SH v MO) := by
  refine zMet.of (by decide +kernel) (Nat.le_of_ble_eq_true rfl) (Or.inr (Or.inl rfl)) ?_
  show zA l yX12_law cX12_law 4 (some .int) 9 0 0 SH.length (zDi SH v MO) 0 0 0 [(0, .ref x0), (1, .int x1)] [] SH M
  unfold f_X12_law at hf
  refine z_iload_n dX12_law_0 rfl rfl ?_
  refine z_iconst (v := 1) dX12_law_1 (by decide) ?_
  refine z_sipush (v := 240) dX12_law_2 (by decide) ?_
  obtain ⟨v_1, M_2, c_3, hf⟩ := z_call_some hf
  refine z_cSi (t_X12_in  c_3) kw_X12_in lk_X12_90 rfl (by decide) rfl (Nat.le_of_ble_eq_true rfl) ⟨Nat.le_refl 0, Nat.le_refl 0⟩ dX12_law_5 ?_
  refine z_if_eq (tgt := 19) dX12_law_8 (by decide) (fun q_4 => ?_) (fun q_4 => ?_)
  · have hf := (if_pos q_4).symm.trans hf
    refine z_iconst (v := (-1)) dX12_law_19 (by decide) ?_
    obtain ⟨rfl, rfl⟩ := z_end hf
    exact z_iret ⟨rfl, rfl, rfl⟩ (Or.inl rfl) dX12_law_20
  · have hf := (if_neg q_4).symm.trans hf
    refine z_iload_n dX12_law_11 rfl rfl ?_
    refine z_aload_n dX12_law_12 rfl rfl ?_
    refine zgI fl_X12_115 h0 (fun _ => rfl) dX12_law_13 ?_
    refine z_icmp_le (tgt := 21) dX12_law_16 (by decide) (fun q_5 => ?_) (fun q_5 => ?_)
    · have hf := (if_pos q_5).symm.trans hf
      refine z_aload_n dX12_law_21 rfl rfl ?_
      refine z_iload_n dX12_law_22 rfl rfl ?_
      obtain ⟨v_6, M_7, c_8, hf⟩ := z_call_some hf
      refine z_cVv (t_X12_beginsText h0 c_8) kw_X12_beginsText lk_X12_208 h0 rfl (by decide) rfl (Nat.le_of_ble_eq_true rfl) ⟨Nat.le_refl 0, Nat.le_refl 0⟩ dX12_law_23 ?_
      refine z_aload_n dX12_law_26 rfl rfl ?_
      obtain ⟨v_9, M_10, c_11, hf⟩ := z_call_some hf
      refine z_cVi (t_X12_readsRule h0 c_11) kw_X12_readsRule lk_X12_211 h0 rfl (by decide) rfl (Nat.le_of_ble_eq_true rfl) ⟨Nat.le_refl 0, Nat.le_refl 0⟩ dX12_law_27 ?_
      refine z_istore_n' (lv' := [(2, .int v_9), (0, .ref x0), (1, .int x1)]) rfl dX12_law_30 (by decide) rfl rfl ?_
      refine zA.pick [(0, .ref x0), (2, .int v_9)] [1, 0] rfl ?_
      exact t_X12_law_31 h0 zF v_9 M_10 hf
    · have hf := (if_neg q_5).symm.trans hf
      refine z_iconst (v := (-1)) dX12_law_19 (by decide) ?_
      obtain ⟨rfl, rfl⟩ := z_end hf
      exact z_iret ⟨rfl, rfl, rfl⟩ (Or.inl rfl) dX12_law_20
noncomputable def f_X12_reckon (x0 : Int32) (x1 : Int32) (x2 : Int32) (M : zM) : Option (Int32 × zM) :=
  (if x0 = 2 then some ((x1 + x2), M) else if x0 = 3 then some ((x1 - x2), M) else if x0 = 4 then some ((x1 * x2), M) else if x0 = 5 then if ¬ ((x2 : Int32) = 0) then some ((x1 / x2), M) else none else if x0 = 6 then if ¬ ((x2 : Int32) = 0) then some ((x1 - x1 / x2 * x2), M) else none else if x0 = 7 then (if x2 ≤ x1 then some (0, M) else some (1, M)) else if x0 = 8 then (if x1 ≤ x2 then some (0, M) else some (1, M)) else (if x1 = x2 then some (1, M) else some (0, M)))
set_option maxHeartbeats 2000000 in
set_option maxRecDepth 20000 in
theorem t_X12_reckon {l : Launch} {x0 : Int32} {x1 : Int32} {x2 : Int32} {M MO : zM} {v : Int32} (hf : f_X12_reckon x0 x1 x2 M = some (v, MO)) : zMet l yX12_reckon cX12_reckon 3 (some .int) 1 0 0 [.int x0, .int x1, .int x2] SH M (zDi SH v MO) := by
  refine zMet.of (by decide +kernel) (Nat.le_of_ble_eq_true rfl) (Or.inr (Or.inl rfl)) ?_
  show zA l yX12_reckon cX12_reckon 3 (some .int) 1 0 0 SH.length (zDi SH v MO) 0 0 0 [(0, .int x0), (1, .int x1), (2, .int x2)] [] SH M
  unfold f_X12_reckon at hf
  refine z_iload_n dX12_reckon_0 rfl rfl ?_
  by_cases q_1 : x0 = 2
  · have hf := (if_pos q_1).symm.trans hf
    refine z_tabIn (tgt := 44) (off := 43) dX12_reckon_1 (by rw [q_1]; decide) (by rw [q_1]; decide) (by rw [q_1]; rfl) (by decide) ?_
    refine z_iload_n dX12_reckon_44 rfl rfl ?_
    refine z_iload_n dX12_reckon_45 rfl rfl ?_
    refine z_iadd dX12_reckon_46 ?_
    obtain ⟨rfl, rfl⟩ := z_end hf
    exact z_iret ⟨rfl, rfl, rfl⟩ (Or.inl rfl) dX12_reckon_47
  have hf := (if_neg q_1).symm.trans hf
  by_cases q_2 : x0 = 3
  · have hf := (if_pos q_2).symm.trans hf
    refine z_tabIn (tgt := 48) (off := 47) dX12_reckon_1 (by rw [q_2]; decide) (by rw [q_2]; decide) (by rw [q_2]; rfl) (by decide) ?_
    refine z_iload_n dX12_reckon_48 rfl rfl ?_
    refine z_iload_n dX12_reckon_49 rfl rfl ?_
    refine z_isub dX12_reckon_50 ?_
    obtain ⟨rfl, rfl⟩ := z_end hf
    exact z_iret ⟨rfl, rfl, rfl⟩ (Or.inl rfl) dX12_reckon_51
  have hf := (if_neg q_2).symm.trans hf
  by_cases q_3 : x0 = 4
  · have hf := (if_pos q_3).symm.trans hf
    refine z_tabIn (tgt := 52) (off := 51) dX12_reckon_1 (by rw [q_3]; decide) (by rw [q_3]; decide) (by rw [q_3]; rfl) (by decide) ?_
    refine z_iload_n dX12_reckon_52 rfl rfl ?_
    refine z_iload_n dX12_reckon_53 rfl rfl ?_
    refine z_imul dX12_reckon_54 ?_
    obtain ⟨rfl, rfl⟩ := z_end hf
    exact z_iret ⟨rfl, rfl, rfl⟩ (Or.inl rfl) dX12_reckon_55
  have hf := (if_neg q_3).symm.trans hf
  by_cases q_4 : x0 = 5
  · have hf := (if_pos q_4).symm.trans hf
    refine z_tabIn (tgt := 56) (off := 55) dX12_reckon_1 (by rw [q_4]; decide) (by rw [q_4]; decide) (by rw [q_4]; rfl) (by decide) ?_
    refine z_iload_n dX12_reckon_56 rfl rfl ?_
    refine z_iload_n dX12_reckon_57 rfl rfl ?_
    obtain ⟨g_5, hf⟩ := z_ifs hf
    refine z_idiv dX12_reckon_58 g_5 ?_
    obtain ⟨rfl, rfl⟩ := z_end hf
    exact z_iret ⟨rfl, rfl, rfl⟩ (Or.inl rfl) dX12_reckon_59
  have hf := (if_neg q_4).symm.trans hf
  by_cases q_6 : x0 = 6
  · have hf := (if_pos q_6).symm.trans hf
    refine z_tabIn (tgt := 60) (off := 59) dX12_reckon_1 (by rw [q_6]; decide) (by rw [q_6]; decide) (by rw [q_6]; rfl) (by decide) ?_
    refine z_iload_n dX12_reckon_60 rfl rfl ?_
    refine z_iload_n dX12_reckon_61 rfl rfl ?_
    obtain ⟨g_7, hf⟩ := z_ifs hf
    refine z_irem dX12_reckon_62 g_7 ?_
    obtain ⟨rfl, rfl⟩ := z_end hf
    exact z_iret ⟨rfl, rfl, rfl⟩ (Or.inl rfl) dX12_reckon_63
  have hf := (if_neg q_6).symm.trans hf
  by_cases q_8 : x0 = 7
  · have hf := (if_pos q_8).symm.trans hf
    refine z_tabIn (tgt := 64) (off := 63) dX12_reckon_1 (by rw [q_8]; decide) (by rw [q_8]; decide) (by rw [q_8]; rfl) (by decide) ?_
    refine z_iload_n dX12_reckon_64 rfl rfl ?_
    refine z_iload_n dX12_reckon_65 rfl rfl ?_
    refine z_icmp_ge (tgt := 73) dX12_reckon_66 (by decide) (fun q_9 => ?_) (fun q_9 => ?_)
    · have hf := (if_pos q_9).symm.trans hf
      refine z_iconst (v := 0) dX12_reckon_73 (by decide) ?_
      obtain ⟨rfl, rfl⟩ := z_end hf
      exact z_iret ⟨rfl, rfl, rfl⟩ (Or.inl rfl) dX12_reckon_74
    · have hf := (if_neg q_9).symm.trans hf
      refine z_iconst (v := 1) dX12_reckon_69 (by decide) ?_
      refine z_goto (tgt := 74) dX12_reckon_70 (by decide) ?_
      obtain ⟨rfl, rfl⟩ := z_end hf
      exact z_iret ⟨rfl, rfl, rfl⟩ (Or.inl rfl) dX12_reckon_74
  have hf := (if_neg q_8).symm.trans hf
  by_cases q_10 : x0 = 8
  · have hf := (if_pos q_10).symm.trans hf
    refine z_tabIn (tgt := 75) (off := 74) dX12_reckon_1 (by rw [q_10]; decide) (by rw [q_10]; decide) (by rw [q_10]; rfl) (by decide) ?_
    refine z_iload_n dX12_reckon_75 rfl rfl ?_
    refine z_iload_n dX12_reckon_76 rfl rfl ?_
    refine z_icmp_le (tgt := 84) dX12_reckon_77 (by decide) (fun q_11 => ?_) (fun q_11 => ?_)
    · have hf := (if_pos q_11).symm.trans hf
      refine z_iconst (v := 0) dX12_reckon_84 (by decide) ?_
      obtain ⟨rfl, rfl⟩ := z_end hf
      exact z_iret ⟨rfl, rfl, rfl⟩ (Or.inl rfl) dX12_reckon_85
    · have hf := (if_neg q_11).symm.trans hf
      refine z_iconst (v := 1) dX12_reckon_80 (by decide) ?_
      refine z_goto (tgt := 85) dX12_reckon_81 (by decide) ?_
      obtain ⟨rfl, rfl⟩ := z_end hf
      exact z_iret ⟨rfl, rfl, rfl⟩ (Or.inl rfl) dX12_reckon_85
  have hf := (if_neg q_10).symm.trans hf
  refine z_tabD (tgt := 86) dX12_reckon_1 [2, 3, 4, 5, 6, 7, 8] (List.forall_mem_cons.mpr ⟨lv_neT q_1 (by decide), (List.forall_mem_cons.mpr ⟨lv_neT q_2 (by decide), (List.forall_mem_cons.mpr ⟨lv_neT q_3 (by decide), (List.forall_mem_cons.mpr ⟨lv_neT q_4 (by decide), (List.forall_mem_cons.mpr ⟨lv_neT q_6 (by decide), (List.forall_mem_cons.mpr ⟨lv_neT q_8 (by decide), (List.forall_mem_cons.mpr ⟨lv_neT q_10 (by decide), (fun _ h => absurd h List.not_mem_nil)⟩)⟩)⟩)⟩)⟩)⟩)⟩) (by decide) (by decide) ?_
  refine z_iload_n dX12_reckon_86 rfl rfl ?_
  refine z_iload_n dX12_reckon_87 rfl rfl ?_
  refine z_icmp_ne (tgt := 95) dX12_reckon_88 (by decide) (fun q_12 => ?_) (fun q_12 => ?_)
  · have hf := (if_neg q_12).symm.trans hf
    refine z_iconst (v := 0) dX12_reckon_95 (by decide) ?_
    obtain ⟨rfl, rfl⟩ := z_end hf
    exact z_iret ⟨rfl, rfl, rfl⟩ (Or.inl rfl) dX12_reckon_96
  · have hf := (if_pos q_12).symm.trans hf
    refine z_iconst (v := 1) dX12_reckon_91 (by decide) ?_
    refine z_goto (tgt := 96) dX12_reckon_92 (by decide) ?_
    obtain ⟨rfl, rfl⟩ := z_end hf
    exact z_iret ⟨rfl, rfl, rfl⟩ (Or.inl rfl) dX12_reckon_96
noncomputable def f_X12_comesTo_230 (x0 : Nat) (x2 : Int32) (k16 : Int32 → Int32 → Int32 → zM → Option (Int32 × zM)) (x3 : Int32) (x4 : Int32) (x5 : Int32) (M : zM) : Option (Int32 × zM) :=
  (k16 x3 x4 x5 M)
set_option maxHeartbeats 2000000 in
set_option maxRecDepth 20000 in
theorem t_X12_comesTo_230 {l : Launch} {x0 : Nat} {x2 : Int32} {k16 : Int32 → Int32 → Int32 → zM → Option (Int32 × zM)} {x3 : Int32} {x4 : Int32} {x5 : Int32} {M MO : zM} {v : Int32} (h0 : z_tm SH 11 x0) (hk16 : ∀ (x3 : Int32) (x4 : Int32) (x5 : Int32) (M : zM), k16 x3 x4 x5 M = some (v, MO) → zA l yX12_comesTo cX12_comesTo 8 (some .int) 2 0 0 SH.length (zDi SH v MO) 0 0 16 [(0, .ref x0), (2, .int x2), (3, .int x3), (4, .int x4), (5, .int x5)] [] SH M) (hf : f_X12_comesTo_230 x0 x2 k16 x3 x4 x5 M = some (v, MO)) : zA l yX12_comesTo cX12_comesTo 8 (some .int) 2 0 0 SH.length (zDi SH v MO) 0 0 230 [(0, .ref x0), (2, .int x2), (3, .int x3), (4, .int x4), (5, .int x5)] [] SH M := by
  unfold f_X12_comesTo_230 at hf
  refine z_goto (tgt := 16) dX12_comesTo_230 (by decide) ?_
  exact hk16 x3 x4 x5 M hf
noncomputable def f_X12_comesTo_85 (x0 : Nat) (x2 : Int32) (k16 : Int32 → Int32 → Int32 → zM → Option (Int32 × zM)) (x3 : Int32) (x4 : Int32) (x5 : Int32) (s0 : Nat) (s1 : Int32) (s2 : Int32) (M : zM) : Option (Int32 × zM) :=
  if z_ix s1 (z_ln SH s0) = true then zl (zu M.1 s0 (s1 : Int32).toNatClampNeg s2, M.2) fun M_2 => zl ((x3 + 1)) fun x3_3 => (f_X12_comesTo_230 x0 x2 k16 x3_3 x4 x5 M_2) else none
set_option maxHeartbeats 2000000 in
set_option maxRecDepth 20000 in
theorem t_X12_comesTo_85 {l : Launch} {x0 : Nat} {x2 : Int32} {k16 : Int32 → Int32 → Int32 → zM → Option (Int32 × zM)} {x3 : Int32} {x4 : Int32} {x5 : Int32} {s0 : Nat} {s1 : Int32} {s2 : Int32} {M MO : zM} {v : Int32} (h0 : z_tm SH 11 x0) (hk16 : ∀ (x3 : Int32) (x4 : Int32) (x5 : Int32) (M : zM), k16 x3 x4 x5 M = some (v, MO) → zA l yX12_comesTo cX12_comesTo 8 (some .int) 2 0 0 SH.length (zDi SH v MO) 0 0 16 [(0, .ref x0), (2, .int x2), (3, .int x3), (4, .int x4), (5, .int x5)] [] SH M) (hs0 : z_tm SH 100 s0) (hf : f_X12_comesTo_85 x0 x2 k16 x3 x4 x5 s0 s1 s2 M = some (v, MO)) : zA l yX12_comesTo cX12_comesTo 8 (some .int) 2 0 0 SH.length (zDi SH v MO) 0 0 85 [(0, .ref x0), (2, .int x2), (3, .int x3), (4, .int x4), (5, .int x5)] [.int s2, .int s1, .ref s0] SH M := by
  unfold f_X12_comesTo_85 at hf
  obtain ⟨g_1, hf⟩ := z_ifs hf
  obtain ⟨M_2, eM_2, hf⟩ := zl_some hf
  refine z_iast hs0 g_1 eM_2 dX12_comesTo_85 ?_
  refine z_iload_n dX12_comesTo_86 rfl rfl ?_
  refine z_iconst (v := 1) dX12_comesTo_87 (by decide) ?_
  refine z_iadd dX12_comesTo_88 ?_
  obtain ⟨x3_3, ex3_3, hf⟩ := zl_some hf
  refine z_istore_n' (lv' := [(3, .int x3_3), (0, .ref x0), (2, .int x2), (4, .int x4), (5, .int x5)]) rfl dX12_comesTo_89 (by decide) ex3_3 rfl ?_
  refine z_goto (tgt := 230) dX12_comesTo_90 (by decide) ?_
  refine zA.pick [(0, .ref x0), (2, .int x2), (3, .int x3_3), (4, .int x4), (5, .int x5)] [1, 2, 0, 3, 4] rfl ?_
  exact t_X12_comesTo_230 h0 hk16 hf
noncomputable def f_X12_comesTo_63 (x0 : Nat) (x2 : Int32) (k16 : Int32 → Int32 → Int32 → zM → Option (Int32 × zM)) (x3 : Int32) (x4 : Int32) (x5 : Int32) (x6 : Int32) (x7 : Int32) (M : zM) : Option (Int32 × zM) :=
  z_rd (M.2.1 x0 25) fun a_1 => (if x6 = 0 then (f_X12_comesTo_85 x0 x2 k16 x3 x4 x5 a_1 x3 x7 M) else z_rd (M.2.1 x0 26) fun a_3 => if z_ix x7 (z_ln SH a_3) = true then (f_X12_comesTo_85 x0 x2 k16 x3 x4 x5 a_1 x3 (M.1 a_3 (x7 : Int32).toNatClampNeg) M) else none)
set_option maxHeartbeats 2000000 in
set_option maxRecDepth 20000 in
theorem t_X12_comesTo_63 {l : Launch} {x0 : Nat} {x2 : Int32} {k16 : Int32 → Int32 → Int32 → zM → Option (Int32 × zM)} {x3 : Int32} {x4 : Int32} {x5 : Int32} {x6 : Int32} {x7 : Int32} {M MO : zM} {v : Int32} (h0 : z_tm SH 11 x0) (hk16 : ∀ (x3 : Int32) (x4 : Int32) (x5 : Int32) (M : zM), k16 x3 x4 x5 M = some (v, MO) → zA l yX12_comesTo cX12_comesTo 8 (some .int) 2 0 0 SH.length (zDi SH v MO) 0 0 16 [(0, .ref x0), (2, .int x2), (3, .int x3), (4, .int x4), (5, .int x5)] [] SH M) (hf : f_X12_comesTo_63 x0 x2 k16 x3 x4 x5 x6 x7 M = some (v, MO)) : zA l yX12_comesTo cX12_comesTo 8 (some .int) 2 0 0 SH.length (zDi SH v MO) 0 0 63 [(0, .ref x0), (2, .int x2), (3, .int x3), (4, .int x4), (5, .int x5), (6, .int x6), (7, .int x7)] [] SH M := by
  unfold f_X12_comesTo_63 at hf
  refine z_aload_n dX12_comesTo_63 rfl rfl ?_
  obtain ⟨a_1, ra_1, hf⟩ := z_rd_some hf
  refine zgR fl_X12_56 h0 (fun _ => rfl) ra_1 dX12_comesTo_64 (fun ha_1 => ?_)
  refine z_iload_n dX12_comesTo_67 rfl rfl ?_
  refine z_iload dX12_comesTo_68 rfl ?_
  refine z_if_ne (tgt := 78) dX12_comesTo_70 (by decide) (fun q_2 => ?_) (fun q_2 => ?_)
  · have hf := (if_neg q_2).symm.trans hf
    refine z_aload_n dX12_comesTo_78 rfl rfl ?_
    obtain ⟨a_3, ra_3, hf⟩ := z_rd_some hf
    refine zgR fl_X12_59 h0 (fun _ => rfl) ra_3 dX12_comesTo_79 (fun ha_3 => ?_)
    refine z_iload dX12_comesTo_82 rfl ?_
    obtain ⟨g_4, hf⟩ := z_ifs hf
    refine z_iald ha_3 g_4 rfl dX12_comesTo_84 ?_
    refine zA.pick [(0, .ref x0), (2, .int x2), (3, .int x3), (4, .int x4), (5, .int x5)] [0, 1, 2, 3, 4] rfl ?_
    exact t_X12_comesTo_85 h0 hk16 ha_1 hf
  · have hf := (if_pos q_2).symm.trans hf
    refine z_iload dX12_comesTo_73 rfl ?_
    refine z_goto (tgt := 85) dX12_comesTo_75 (by decide) ?_
    refine zA.pick [(0, .ref x0), (2, .int x2), (3, .int x3), (4, .int x4), (5, .int x5)] [0, 1, 2, 3, 4] rfl ?_
    exact t_X12_comesTo_85 h0 hk16 ha_1 hf
noncomputable def f_X12_comesTo_155 (x0 : Nat) (x2 : Int32) (k16 : Int32 → Int32 → Int32 → zM → Option (Int32 × zM)) (x3 : Int32) (x4 : Int32) (x5 : Int32) (x7 : Int32) (s0 : Int32) (s1 : Int32) (M : zM) : Option (Int32 × zM) :=
  (if s0 = s1 then zl ((x4 + x7)) fun x5_3 => (f_X12_comesTo_230 x0 x2 k16 x3 x4 x5_3 M) else zl ((x3 - 1)) fun x3_2 => (f_X12_comesTo_230 x0 x2 k16 x3_2 x4 x5 M))
set_option maxHeartbeats 2000000 in
set_option maxRecDepth 20000 in
theorem t_X12_comesTo_155 {l : Launch} {x0 : Nat} {x2 : Int32} {k16 : Int32 → Int32 → Int32 → zM → Option (Int32 × zM)} {x3 : Int32} {x4 : Int32} {x5 : Int32} {x7 : Int32} {s0 : Int32} {s1 : Int32} {M MO : zM} {v : Int32} (h0 : z_tm SH 11 x0) (hk16 : ∀ (x3 : Int32) (x4 : Int32) (x5 : Int32) (M : zM), k16 x3 x4 x5 M = some (v, MO) → zA l yX12_comesTo cX12_comesTo 8 (some .int) 2 0 0 SH.length (zDi SH v MO) 0 0 16 [(0, .ref x0), (2, .int x2), (3, .int x3), (4, .int x4), (5, .int x5)] [] SH M) (hf : f_X12_comesTo_155 x0 x2 k16 x3 x4 x5 x7 s0 s1 M = some (v, MO)) : zA l yX12_comesTo cX12_comesTo 8 (some .int) 2 0 0 SH.length (zDi SH v MO) 0 0 155 [(0, .ref x0), (2, .int x2), (3, .int x3), (4, .int x4), (5, .int x5), (7, .int x7)] [.int s1, .int s0] SH M := by
  unfold f_X12_comesTo_155 at hf
  refine z_icmp_ne (tgt := 168) dX12_comesTo_155 (by decide) (fun q_1 => ?_) (fun q_1 => ?_)
  · have hf := (if_neg q_1).symm.trans hf
    refine z_iload_n dX12_comesTo_168 rfl rfl ?_
    refine z_iconst (v := 1) dX12_comesTo_169 (by decide) ?_
    refine z_isub dX12_comesTo_170 ?_
    obtain ⟨x3_2, ex3_2, hf⟩ := zl_some hf
    refine z_istore_n' (lv' := [(3, .int x3_2), (0, .ref x0), (2, .int x2), (4, .int x4), (5, .int x5), (7, .int x7)]) rfl dX12_comesTo_171 (by decide) ex3_2 rfl ?_
    refine z_goto (tgt := 230) dX12_comesTo_172 (by decide) ?_
    refine zA.pick [(0, .ref x0), (2, .int x2), (3, .int x3_2), (4, .int x4), (5, .int x5)] [1, 2, 0, 3, 4] rfl ?_
    exact t_X12_comesTo_230 h0 hk16 hf
  · have hf := (if_pos q_1).symm.trans hf
    refine z_iload dX12_comesTo_158 rfl ?_
    refine z_iload dX12_comesTo_160 rfl ?_
    refine z_iadd dX12_comesTo_162 ?_
    obtain ⟨x5_3, ex5_3, hf⟩ := zl_some hf
    refine z_istore' (lv' := [(5, .int x5_3), (0, .ref x0), (2, .int x2), (3, .int x3), (4, .int x4), (7, .int x7)]) dX12_comesTo_163 (by decide) ex5_3 rfl ?_
    refine z_goto (tgt := 230) dX12_comesTo_165 (by decide) ?_
    refine zA.pick [(0, .ref x0), (2, .int x2), (3, .int x3), (4, .int x4), (5, .int x5_3)] [1, 2, 3, 4, 0] rfl ?_
    exact t_X12_comesTo_230 h0 hk16 hf
noncomputable def f_X12_comesTo_135 (x0 : Nat) (x2 : Int32) (k16 : Int32 → Int32 → Int32 → zM → Option (Int32 × zM)) (x3 : Int32) (x4 : Int32) (x5 : Int32) (x6 : Int32) (x7 : Int32) (M : zM) : Option (Int32 × zM) :=
  z_rd (M.2.1 x0 25) fun a_1 => if z_ix (x3 - 1) (z_ln SH a_1) = true then (if x6 = 12 then (f_X12_comesTo_155 x0 x2 k16 x3 x4 x5 x7 (M.1 a_1 ((x3 - 1) : Int32).toNatClampNeg) 1 M) else (f_X12_comesTo_155 x0 x2 k16 x3 x4 x5 x7 (M.1 a_1 ((x3 - 1) : Int32).toNatClampNeg) 0 M)) else none
set_option maxHeartbeats 2000000 in
set_option maxRecDepth 20000 in
theorem t_X12_comesTo_135 {l : Launch} {x0 : Nat} {x2 : Int32} {k16 : Int32 → Int32 → Int32 → zM → Option (Int32 × zM)} {x3 : Int32} {x4 : Int32} {x5 : Int32} {x6 : Int32} {x7 : Int32} {M MO : zM} {v : Int32} (h0 : z_tm SH 11 x0) (hk16 : ∀ (x3 : Int32) (x4 : Int32) (x5 : Int32) (M : zM), k16 x3 x4 x5 M = some (v, MO) → zA l yX12_comesTo cX12_comesTo 8 (some .int) 2 0 0 SH.length (zDi SH v MO) 0 0 16 [(0, .ref x0), (2, .int x2), (3, .int x3), (4, .int x4), (5, .int x5)] [] SH M) (hf : f_X12_comesTo_135 x0 x2 k16 x3 x4 x5 x6 x7 M = some (v, MO)) : zA l yX12_comesTo cX12_comesTo 8 (some .int) 2 0 0 SH.length (zDi SH v MO) 0 0 135 [(0, .ref x0), (2, .int x2), (3, .int x3), (4, .int x4), (5, .int x5), (6, .int x6), (7, .int x7)] [] SH M := by
  unfold f_X12_comesTo_135 at hf
  refine z_aload_n dX12_comesTo_135 rfl rfl ?_
  obtain ⟨a_1, ra_1, hf⟩ := z_rd_some hf
  refine zgR fl_X12_56 h0 (fun _ => rfl) ra_1 dX12_comesTo_136 (fun ha_1 => ?_)
  refine z_iload_n dX12_comesTo_139 rfl rfl ?_
  refine z_iconst (v := 1) dX12_comesTo_140 (by decide) ?_
  refine z_isub dX12_comesTo_141 ?_
  obtain ⟨g_2, hf⟩ := z_ifs hf
  refine z_iald ha_1 g_2 rfl dX12_comesTo_142 ?_
  refine z_iload dX12_comesTo_143 rfl ?_
  refine z_bipush (v := 12) dX12_comesTo_145 (by decide) ?_
  refine z_icmp_ne (tgt := 154) dX12_comesTo_147 (by decide) (fun q_3 => ?_) (fun q_3 => ?_)
  · have hf := (if_neg q_3).symm.trans hf
    refine z_iconst (v := 0) dX12_comesTo_154 (by decide) ?_
    refine zA.pick [(0, .ref x0), (2, .int x2), (3, .int x3), (4, .int x4), (5, .int x5), (7, .int x7)] [0, 1, 2, 3, 4, 6] rfl ?_
    exact t_X12_comesTo_155 h0 hk16 hf
  · have hf := (if_pos q_3).symm.trans hf
    refine z_iconst (v := 1) dX12_comesTo_150 (by decide) ?_
    refine z_goto (tgt := 155) dX12_comesTo_151 (by decide) ?_
    refine zA.pick [(0, .ref x0), (2, .int x2), (3, .int x3), (4, .int x4), (5, .int x5), (7, .int x7)] [0, 1, 2, 3, 4, 6] rfl ?_
    exact t_X12_comesTo_155 h0 hk16 hf
noncomputable def f_X12_comesTo_203 (x0 : Nat) (x2 : Int32) (k16 : Int32 → Int32 → Int32 → zM → Option (Int32 × zM)) (x3 : Int32) (x4 : Int32) (x5 : Int32) (x6 : Int32) (M : zM) : Option (Int32 × zM) :=
  z_rd (M.2.1 x0 25) fun a_1 => z_rd (M.2.1 x0 25) fun a_2 => if z_ix (x3 - 1) (z_ln SH a_2) = true then z_rd (M.2.1 x0 25) fun a_4 => if z_ix x3 (z_ln SH a_4) = true then z_call (f_X12_reckon x6 (M.1 a_2 ((x3 - 1) : Int32).toNatClampNeg) (M.1 a_4 (x3 : Int32).toNatClampNeg) M) fun v_6 M_7 => if z_ix (x3 - 1) (z_ln SH a_1) = true then zl (zu M_7.1 a_1 ((x3 - 1) : Int32).toNatClampNeg v_6, M_7.2) fun M_10 => (f_X12_comesTo_230 x0 x2 k16 x3 x4 x5 M_10) else none else none else none
set_option maxHeartbeats 2000000 in
set_option maxRecDepth 20000 in
theorem t_X12_comesTo_203 {l : Launch} {x0 : Nat} {x2 : Int32} {k16 : Int32 → Int32 → Int32 → zM → Option (Int32 × zM)} {x3 : Int32} {x4 : Int32} {x5 : Int32} {x6 : Int32} {M MO : zM} {v : Int32} (h0 : z_tm SH 11 x0) (hk16 : ∀ (x3 : Int32) (x4 : Int32) (x5 : Int32) (M : zM), k16 x3 x4 x5 M = some (v, MO) → zA l yX12_comesTo cX12_comesTo 8 (some .int) 2 0 0 SH.length (zDi SH v MO) 0 0 16 [(0, .ref x0), (2, .int x2), (3, .int x3), (4, .int x4), (5, .int x5)] [] SH M) (hf : f_X12_comesTo_203 x0 x2 k16 x3 x4 x5 x6 M = some (v, MO)) : zA l yX12_comesTo cX12_comesTo 8 (some .int) 2 0 0 SH.length (zDi SH v MO) 0 0 203 [(0, .ref x0), (2, .int x2), (3, .int x3), (4, .int x4), (5, .int x5), (6, .int x6)] [] SH M := by
  unfold f_X12_comesTo_203 at hf
  refine z_aload_n dX12_comesTo_203 rfl rfl ?_
  obtain ⟨a_1, ra_1, hf⟩ := z_rd_some hf
  refine zgR fl_X12_56 h0 (fun _ => rfl) ra_1 dX12_comesTo_204 (fun ha_1 => ?_)
  refine z_iload_n dX12_comesTo_207 rfl rfl ?_
  refine z_iconst (v := 1) dX12_comesTo_208 (by decide) ?_
  refine z_isub dX12_comesTo_209 ?_
  refine z_iload dX12_comesTo_210 rfl ?_
  refine z_aload_n dX12_comesTo_212 rfl rfl ?_
  obtain ⟨a_2, ra_2, hf⟩ := z_rd_some hf
  refine zgR fl_X12_56 h0 (fun _ => rfl) ra_2 dX12_comesTo_213 (fun ha_2 => ?_)
  refine z_iload_n dX12_comesTo_216 rfl rfl ?_
  refine z_iconst (v := 1) dX12_comesTo_217 (by decide) ?_
  refine z_isub dX12_comesTo_218 ?_
  obtain ⟨g_3, hf⟩ := z_ifs hf
  refine z_iald ha_2 g_3 rfl dX12_comesTo_219 ?_
  refine z_aload_n dX12_comesTo_220 rfl rfl ?_
  obtain ⟨a_4, ra_4, hf⟩ := z_rd_some hf
  refine zgR fl_X12_56 h0 (fun _ => rfl) ra_4 dX12_comesTo_221 (fun ha_4 => ?_)
  refine z_iload_n dX12_comesTo_224 rfl rfl ?_
  obtain ⟨g_5, hf⟩ := z_ifs hf
  refine z_iald ha_4 g_5 rfl dX12_comesTo_225 ?_
  obtain ⟨v_6, M_7, c_8, hf⟩ := z_call_some hf
  refine z_cSi (t_X12_reckon  c_8) kw_X12_reckon lk_X12_220 rfl (by decide) rfl (Nat.le_of_ble_eq_true rfl) ⟨Nat.le_refl 0, Nat.le_refl 0⟩ dX12_comesTo_226 ?_
  obtain ⟨g_9, hf⟩ := z_ifs hf
  obtain ⟨M_10, eM_10, hf⟩ := zl_some hf
  refine z_iast ha_1 g_9 eM_10 dX12_comesTo_229 ?_
  refine zA.pick [(0, .ref x0), (2, .int x2), (3, .int x3), (4, .int x4), (5, .int x5)] [0, 1, 2, 3, 4] rfl ?_
  exact t_X12_comesTo_230 h0 hk16 hf
noncomputable def f_X12_comesTo_192 (x0 : Nat) (x2 : Int32) (k16 : Int32 → Int32 → Int32 → zM → Option (Int32 × zM)) (x3 : Int32) (x4 : Int32) (x5 : Int32) (x6 : Int32) (M : zM) : Option (Int32 × zM) :=
  z_rd (M.2.1 x0 25) fun a_1 => if z_ix x3 (z_ln SH a_1) = true then (if (M.1 a_1 (x3 : Int32).toNatClampNeg) = 0 then some (0, M) else (f_X12_comesTo_203 x0 x2 k16 x3 x4 x5 x6 M)) else none
set_option maxHeartbeats 2000000 in
set_option maxRecDepth 20000 in
theorem t_X12_comesTo_192 {l : Launch} {x0 : Nat} {x2 : Int32} {k16 : Int32 → Int32 → Int32 → zM → Option (Int32 × zM)} {x3 : Int32} {x4 : Int32} {x5 : Int32} {x6 : Int32} {M MO : zM} {v : Int32} (h0 : z_tm SH 11 x0) (hk16 : ∀ (x3 : Int32) (x4 : Int32) (x5 : Int32) (M : zM), k16 x3 x4 x5 M = some (v, MO) → zA l yX12_comesTo cX12_comesTo 8 (some .int) 2 0 0 SH.length (zDi SH v MO) 0 0 16 [(0, .ref x0), (2, .int x2), (3, .int x3), (4, .int x4), (5, .int x5)] [] SH M) (hf : f_X12_comesTo_192 x0 x2 k16 x3 x4 x5 x6 M = some (v, MO)) : zA l yX12_comesTo cX12_comesTo 8 (some .int) 2 0 0 SH.length (zDi SH v MO) 0 0 192 [(0, .ref x0), (2, .int x2), (3, .int x3), (4, .int x4), (5, .int x5), (6, .int x6)] [] SH M := by
  unfold f_X12_comesTo_192 at hf
  refine z_aload_n dX12_comesTo_192 rfl rfl ?_
  obtain ⟨a_1, ra_1, hf⟩ := z_rd_some hf
  refine zgR fl_X12_56 h0 (fun _ => rfl) ra_1 dX12_comesTo_193 (fun ha_1 => ?_)
  refine z_iload_n dX12_comesTo_196 rfl rfl ?_
  obtain ⟨g_2, hf⟩ := z_ifs hf
  refine z_iald ha_1 g_2 rfl dX12_comesTo_197 ?_
  refine z_if_ne (tgt := 203) dX12_comesTo_198 (by decide) (fun q_3 => ?_) (fun q_3 => ?_)
  · have hf := (if_neg q_3).symm.trans hf
    exact t_X12_comesTo_203 h0 hk16 hf
  · have hf := (if_pos q_3).symm.trans hf
    refine z_iconst (v := 0) dX12_comesTo_201 (by decide) ?_
    obtain ⟨rfl, rfl⟩ := z_end hf
    exact z_iret ⟨rfl, rfl, rfl⟩ (Or.inl rfl) dX12_comesTo_202
noncomputable def f_X12_comesTo_16 (x0 : Nat) (x2 : Int32) : Nat → Int32 → Int32 → Int32 → zM → Option (Int32 × zM)
  | 0, _, _, _, _ => none
  | n + 1, x3, x4, x5, M =>
    (if x2 ≤ x5 then z_rd (M.2.1 x0 25) fun a_2 => if z_ix 0 (z_ln SH a_2) = true then some ((M.1 a_2 (0 : Int32).toNatClampNeg), M) else none else z_rd (M.2.1 x0 20) fun a_4 => if z_ix x5 (z_ln SH a_4) = true then zl (((M.1 a_4 (x5 : Int32).toNatClampNeg) / 1048576)) fun x6_6 => z_rd (M.2.1 x0 20) fun a_7 => if z_ix x5 (z_ln SH a_7) = true then zl (((M.1 a_7 (x5 : Int32).toNatClampNeg) - (M.1 a_7 (x5 : Int32).toNatClampNeg) / 1048576 * 1048576)) fun x7_9 => zl ((x5 + 1)) fun x5_10 => (if x6_6 = 0 then (f_X12_comesTo_63 x0 x2 (f_X12_comesTo_16 x0 x2 n) x3 x4 x5_10 x6_6 x7_9 M) else (if x6_6 = 1 then (f_X12_comesTo_63 x0 x2 (f_X12_comesTo_16 x0 x2 n) x3 x4 x5_10 x6_6 x7_9 M) else (if x6_6 = 10 then z_rd (M.2.1 x0 25) fun a_19 => z_rd (M.2.1 x0 25) fun a_20 => if z_ix (x3 - 1) (z_ln SH a_20) = true then if z_ix (x3 - 1) (z_ln SH a_19) = true then zl (zu M.1 a_19 ((x3 - 1) : Int32).toNatClampNeg (1 - (M.1 a_20 ((x3 - 1) : Int32).toNatClampNeg)), M.2) fun M_23 => (f_X12_comesTo_230 x0 x2 (f_X12_comesTo_16 x0 x2 n) x3 x4 x5_10 M_23) else none else none else (if x6_6 = 11 then (f_X12_comesTo_135 x0 x2 (f_X12_comesTo_16 x0 x2 n) x3 x4 x5_10 x6_6 x7_9 M) else (if x6_6 = 12 then (f_X12_comesTo_135 x0 x2 (f_X12_comesTo_16 x0 x2 n) x3 x4 x5_10 x6_6 x7_9 M) else zl ((x3 - 1)) fun x3_16 => (if x6_6 = 5 then (f_X12_comesTo_192 x0 x2 (f_X12_comesTo_16 x0 x2 n) x3_16 x4 x5_10 x6_6 M) else (if x6_6 = 6 then (f_X12_comesTo_192 x0 x2 (f_X12_comesTo_16 x0 x2 n) x3_16 x4 x5_10 x6_6 M) else (f_X12_comesTo_203 x0 x2 (f_X12_comesTo_16 x0 x2 n) x3_16 x4 x5_10 x6_6 M)))))))) else none else none)
set_option maxHeartbeats 2000000 in
set_option maxRecDepth 20000 in
theorem t_X12_comesTo_16 {l : Launch} {x0 : Nat} {x2 : Int32} {MO : zM} {v : Int32} (h0 : z_tm SH 11 x0) : ∀ (n : Nat) (x3 : Int32) (x4 : Int32) (x5 : Int32) (M : zM), f_X12_comesTo_16 x0 x2 n x3 x4 x5 M = some (v, MO) → zA l yX12_comesTo cX12_comesTo 8 (some .int) 2 0 0 SH.length (zDi SH v MO) 0 0 16 [(0, .ref x0), (2, .int x2), (3, .int x3), (4, .int x4), (5, .int x5)] [] SH M := by
  intro n
  induction n with
  | zero =>
    intro x3 x4 x5 M hf
    rw [f_X12_comesTo_16] at hf
    cases hf
  | succ n ih =>
    intro x3 x4 x5 M hf
    rw [f_X12_comesTo_16] at hf
    refine z_iload dX12_comesTo_16 rfl ?_
    refine z_iload_n dX12_comesTo_18 rfl rfl ?_
    refine z_icmp_ge (tgt := 233) dX12_comesTo_19 (by decide) (fun q_1 => ?_) (fun q_1 => ?_)
    · have hf := (if_pos q_1).symm.trans hf
      refine z_aload_n dX12_comesTo_233 rfl rfl ?_
      obtain ⟨a_2, ra_2, hf⟩ := z_rd_some hf
      refine zgR fl_X12_56 h0 (fun _ => rfl) ra_2 dX12_comesTo_234 (fun ha_2 => ?_)
      refine z_iconst (v := 0) dX12_comesTo_237 (by decide) ?_
      obtain ⟨g_3, hf⟩ := z_ifs hf
      refine z_iald ha_2 g_3 rfl dX12_comesTo_238 ?_
      obtain ⟨rfl, rfl⟩ := z_end hf
      exact z_iret ⟨rfl, rfl, rfl⟩ (Or.inl rfl) dX12_comesTo_239
    · have hf := (if_neg q_1).symm.trans hf
      refine z_aload_n dX12_comesTo_22 rfl rfl ?_
      obtain ⟨a_4, ra_4, hf⟩ := z_rd_some hf
      refine zgR fl_X12_41 h0 (fun _ => rfl) ra_4 dX12_comesTo_23 (fun ha_4 => ?_)
      refine z_iload dX12_comesTo_26 rfl ?_
      obtain ⟨g_5, hf⟩ := z_ifs hf
      refine z_iald ha_4 g_5 rfl dX12_comesTo_28 ?_
      refine z_ldc (v := 1048576) dX12_comesTo_29 cn_X12_150 ?_
      refine z_idiv dX12_comesTo_31 (by decide) ?_
      obtain ⟨x6_6, ex6_6, hf⟩ := zl_some hf
      refine z_istore' (lv' := [(6, .int x6_6), (0, .ref x0), (2, .int x2), (3, .int x3), (4, .int x4), (5, .int x5)]) dX12_comesTo_32 (by decide) ex6_6 rfl ?_
      refine z_aload_n dX12_comesTo_34 rfl rfl ?_
      obtain ⟨a_7, ra_7, hf⟩ := z_rd_some hf
      refine zgR fl_X12_41 h0 (fun _ => rfl) ra_7 dX12_comesTo_35 (fun ha_7 => ?_)
      refine z_iload dX12_comesTo_38 rfl ?_
      obtain ⟨g_8, hf⟩ := z_ifs hf
      refine z_iald ha_7 g_8 rfl dX12_comesTo_40 ?_
      refine z_ldc (v := 1048576) dX12_comesTo_41 cn_X12_150 ?_
      refine z_irem dX12_comesTo_43 (by decide) ?_
      obtain ⟨x7_9, ex7_9, hf⟩ := zl_some hf
      refine z_istore' (lv' := [(7, .int x7_9), (6, .int x6_6), (0, .ref x0), (2, .int x2), (3, .int x3), (4, .int x4), (5, .int x5)]) dX12_comesTo_44 (by decide) ex7_9 rfl ?_
      refine z_iload dX12_comesTo_46 rfl ?_
      refine z_iconst (v := 1) dX12_comesTo_48 (by decide) ?_
      refine z_iadd dX12_comesTo_49 ?_
      obtain ⟨x5_10, ex5_10, hf⟩ := zl_some hf
      refine z_istore' (lv' := [(5, .int x5_10), (7, .int x7_9), (6, .int x6_6), (0, .ref x0), (2, .int x2), (3, .int x3), (4, .int x4)]) dX12_comesTo_50 (by decide) ex5_10 rfl ?_
      refine z_iload dX12_comesTo_52 rfl ?_
      refine z_if_eq (tgt := 63) dX12_comesTo_54 (by decide) (fun q_11 => ?_) (fun q_11 => ?_)
      · have hf := (if_pos q_11).symm.trans hf
        refine zA.pick [(0, .ref x0), (2, .int x2), (3, .int x3), (4, .int x4), (5, .int x5_10), (6, .int x6_6), (7, .int x7_9)] [3, 4, 5, 6, 0, 2, 1] rfl ?_
        exact t_X12_comesTo_63 h0 ih hf
      · have hf := (if_neg q_11).symm.trans hf
        refine z_iload dX12_comesTo_57 rfl ?_
        refine z_iconst (v := 1) dX12_comesTo_59 (by decide) ?_
        refine z_icmp_ne (tgt := 93) dX12_comesTo_60 (by decide) (fun q_12 => ?_) (fun q_12 => ?_)
        · have hf := (if_neg q_12).symm.trans hf
          refine z_iload dX12_comesTo_93 rfl ?_
          refine z_bipush (v := 10) dX12_comesTo_95 (by decide) ?_
          refine z_icmp_ne (tgt := 121) dX12_comesTo_97 (by decide) (fun q_13 => ?_) (fun q_13 => ?_)
          · have hf := (if_neg q_13).symm.trans hf
            refine z_iload dX12_comesTo_121 rfl ?_
            refine z_bipush (v := 11) dX12_comesTo_123 (by decide) ?_
            refine z_icmp_eq (tgt := 135) dX12_comesTo_125 (by decide) (fun q_14 => ?_) (fun q_14 => ?_)
            · have hf := (if_pos q_14).symm.trans hf
              refine zA.pick [(0, .ref x0), (2, .int x2), (3, .int x3), (4, .int x4), (5, .int x5_10), (6, .int x6_6), (7, .int x7_9)] [3, 4, 5, 6, 0, 2, 1] rfl ?_
              exact t_X12_comesTo_135 h0 ih hf
            · have hf := (if_neg q_14).symm.trans hf
              refine z_iload dX12_comesTo_128 rfl ?_
              refine z_bipush (v := 12) dX12_comesTo_130 (by decide) ?_
              refine z_icmp_ne (tgt := 175) dX12_comesTo_132 (by decide) (fun q_15 => ?_) (fun q_15 => ?_)
              · have hf := (if_neg q_15).symm.trans hf
                refine z_iload_n dX12_comesTo_175 rfl rfl ?_
                refine z_iconst (v := 1) dX12_comesTo_176 (by decide) ?_
                refine z_isub dX12_comesTo_177 ?_
                obtain ⟨x3_16, ex3_16, hf⟩ := zl_some hf
                refine z_istore_n' (lv' := [(3, .int x3_16), (5, .int x5_10), (7, .int x7_9), (6, .int x6_6), (0, .ref x0), (2, .int x2), (4, .int x4)]) rfl dX12_comesTo_178 (by decide) ex3_16 rfl ?_
                refine z_iload dX12_comesTo_179 rfl ?_
                refine z_iconst (v := 5) dX12_comesTo_181 (by decide) ?_
                refine z_icmp_eq (tgt := 192) dX12_comesTo_182 (by decide) (fun q_17 => ?_) (fun q_17 => ?_)
                · have hf := (if_pos q_17).symm.trans hf
                  refine zA.pick [(0, .ref x0), (2, .int x2), (3, .int x3_16), (4, .int x4), (5, .int x5_10), (6, .int x6_6)] [4, 5, 0, 6, 1, 3] rfl ?_
                  exact t_X12_comesTo_192 h0 ih hf
                · have hf := (if_neg q_17).symm.trans hf
                  refine z_iload dX12_comesTo_185 rfl ?_
                  refine z_bipush (v := 6) dX12_comesTo_187 (by decide) ?_
                  refine z_icmp_ne (tgt := 203) dX12_comesTo_189 (by decide) (fun q_18 => ?_) (fun q_18 => ?_)
                  · have hf := (if_neg q_18).symm.trans hf
                    refine zA.pick [(0, .ref x0), (2, .int x2), (3, .int x3_16), (4, .int x4), (5, .int x5_10), (6, .int x6_6)] [4, 5, 0, 6, 1, 3] rfl ?_
                    exact t_X12_comesTo_203 h0 ih hf
                  · have hf := (if_pos q_18).symm.trans hf
                    refine zA.pick [(0, .ref x0), (2, .int x2), (3, .int x3_16), (4, .int x4), (5, .int x5_10), (6, .int x6_6)] [4, 5, 0, 6, 1, 3] rfl ?_
                    exact t_X12_comesTo_192 h0 ih hf
              · have hf := (if_pos q_15).symm.trans hf
                refine zA.pick [(0, .ref x0), (2, .int x2), (3, .int x3), (4, .int x4), (5, .int x5_10), (6, .int x6_6), (7, .int x7_9)] [3, 4, 5, 6, 0, 2, 1] rfl ?_
                exact t_X12_comesTo_135 h0 ih hf
          · have hf := (if_pos q_13).symm.trans hf
            refine z_aload_n dX12_comesTo_100 rfl rfl ?_
            obtain ⟨a_19, ra_19, hf⟩ := z_rd_some hf
            refine zgR fl_X12_56 h0 (fun _ => rfl) ra_19 dX12_comesTo_101 (fun ha_19 => ?_)
            refine z_iload_n dX12_comesTo_104 rfl rfl ?_
            refine z_iconst (v := 1) dX12_comesTo_105 (by decide) ?_
            refine z_isub dX12_comesTo_106 ?_
            refine z_iconst (v := 1) dX12_comesTo_107 (by decide) ?_
            refine z_aload_n dX12_comesTo_108 rfl rfl ?_
            obtain ⟨a_20, ra_20, hf⟩ := z_rd_some hf
            refine zgR fl_X12_56 h0 (fun _ => rfl) ra_20 dX12_comesTo_109 (fun ha_20 => ?_)
            refine z_iload_n dX12_comesTo_112 rfl rfl ?_
            refine z_iconst (v := 1) dX12_comesTo_113 (by decide) ?_
            refine z_isub dX12_comesTo_114 ?_
            obtain ⟨g_21, hf⟩ := z_ifs hf
            refine z_iald ha_20 g_21 rfl dX12_comesTo_115 ?_
            refine z_isub dX12_comesTo_116 ?_
            obtain ⟨g_22, hf⟩ := z_ifs hf
            obtain ⟨M_23, eM_23, hf⟩ := zl_some hf
            refine z_iast ha_19 g_22 eM_23 dX12_comesTo_117 ?_
            refine z_goto (tgt := 230) dX12_comesTo_118 (by decide) ?_
            refine zA.pick [(0, .ref x0), (2, .int x2), (3, .int x3), (4, .int x4), (5, .int x5_10)] [3, 4, 5, 6, 0] rfl ?_
            exact t_X12_comesTo_230 h0 ih hf
        · have hf := (if_pos q_12).symm.trans hf
          refine zA.pick [(0, .ref x0), (2, .int x2), (3, .int x3), (4, .int x4), (5, .int x5_10), (6, .int x6_6), (7, .int x7_9)] [3, 4, 5, 6, 0, 2, 1] rfl ?_
          exact t_X12_comesTo_63 h0 ih hf
noncomputable def f_X12_comesTo (x0 : Nat) (x1 : Int32) (x2 : Int32) (M : zM) : Option (Int32 × zM) :=
  zl ((260 * (x1 / 260))) fun x4_1 => (f_X12_comesTo_16 x0 x2 zF 0 x4_1 x1 M)
set_option maxHeartbeats 2000000 in
set_option maxRecDepth 20000 in
theorem t_X12_comesTo {l : Launch} {x0 : Nat} {x1 : Int32} {x2 : Int32} {M MO : zM} {v : Int32} (h0 : z_tm SH 11 x0) (hf : f_X12_comesTo x0 x1 x2 M = some (v, MO)) : zMet l yX12_comesTo cX12_comesTo 8 (some .int) 2 0 0 [.ref x0, .int x1, .int x2] SH M (zDi SH v MO) := by
  refine zMet.of (by decide +kernel) (Nat.le_of_ble_eq_true rfl) (Or.inr (Or.inl rfl)) ?_
  show zA l yX12_comesTo cX12_comesTo 8 (some .int) 2 0 0 SH.length (zDi SH v MO) 0 0 0 [(0, .ref x0), (1, .int x1), (2, .int x2)] [] SH M
  unfold f_X12_comesTo at hf
  refine z_iconst (v := 0) dX12_comesTo_0 (by decide) ?_
  refine z_istore_n' (lv' := [(3, .int 0), (0, .ref x0), (1, .int x1), (2, .int x2)]) rfl dX12_comesTo_1 (by decide) rfl rfl ?_
  refine z_sipush (v := 260) dX12_comesTo_2 (by decide) ?_
  refine z_iload_n dX12_comesTo_5 rfl rfl ?_
  refine z_sipush (v := 260) dX12_comesTo_6 (by decide) ?_
  refine z_idiv dX12_comesTo_9 (by decide) ?_
  refine z_imul dX12_comesTo_10 ?_
  obtain ⟨x4_1, ex4_1, hf⟩ := zl_some hf
  refine z_istore' (lv' := [(4, .int x4_1), (3, .int 0), (0, .ref x0), (1, .int x1), (2, .int x2)]) dX12_comesTo_11 (by decide) ex4_1 rfl ?_
  refine z_iload_n dX12_comesTo_13 rfl rfl ?_
  refine z_istore' (lv' := [(5, .int x1), (4, .int x4_1), (3, .int 0), (0, .ref x0), (1, .int x1), (2, .int x2)]) dX12_comesTo_14 (by decide) rfl rfl ?_
  refine zA.pick [(0, .ref x0), (2, .int x2), (3, .int 0), (4, .int x4_1), (5, .int x1)] [3, 5, 2, 1, 0] rfl ?_
  exact t_X12_comesTo_16 h0 zF 0 x4_1 x1 M hf
noncomputable def f_X12_byLaw_83 (x0 : Nat) (x1 : Int32) (x2 : Int32) (k2 : Int32 → zM → Option (Int32 × zM)) (x3 : Int32) (M : zM) : Option (Int32 × zM) :=
  zl (x3 + 1) fun x3_1 => (k2 x3_1 M)
set_option maxHeartbeats 2000000 in
set_option maxRecDepth 20000 in
theorem t_X12_byLaw_83 {l : Launch} {x0 : Nat} {x1 : Int32} {x2 : Int32} {k2 : Int32 → zM → Option (Int32 × zM)} {x3 : Int32} {M MO : zM} {v : Int32} (h0 : z_tm SH 11 x0) (hk2 : ∀ (x3 : Int32) (M : zM), k2 x3 M = some (v, MO) → zA l yX12_byLaw cX12_byLaw 5 (some .int) 3 0 0 SH.length (zDi SH v MO) 0 0 2 [(0, .ref x0), (1, .int x1), (2, .int x2), (3, .int x3)] [] SH M) (hf : f_X12_byLaw_83 x0 x1 x2 k2 x3 M = some (v, MO)) : zA l yX12_byLaw cX12_byLaw 5 (some .int) 3 0 0 SH.length (zDi SH v MO) 0 0 83 [(0, .ref x0), (1, .int x1), (2, .int x2), (3, .int x3)] [] SH M := by
  unfold f_X12_byLaw_83 at hf
  obtain ⟨x3_1, ex3_1, hf⟩ := zl_some hf
  refine z_iinc' (lv' := [(3, .int x3_1), (0, .ref x0), (1, .int x1), (2, .int x2)]) dX12_byLaw_83 rfl (by decide) ex3_1 (by decide) rfl ?_
  refine z_goto (tgt := 2) dX12_byLaw_86 (by decide) ?_
  refine zA.pick [(0, .ref x0), (1, .int x1), (2, .int x2), (3, .int x3_1)] [1, 2, 3, 0] rfl ?_
  exact hk2 x3_1 M hf
noncomputable def f_X12_byLaw_2 (x0 : Nat) (x1 : Int32) (x2 : Int32) : Nat → Int32 → zM → Option (Int32 × zM)
  | 0, _, _ => none
  | n + 1, x3, M =>
    (if (M.1 x0 13) ≤ x3 then some (0, M) else z_rd (M.2.1 x0 21) fun a_2 => if z_ix x3 (z_ln SH a_2) = true then (if (M.1 a_2 (x3 : Int32).toNatClampNeg) = x1 then z_rd (M.2.1 x0 23) fun a_5 => if z_ix x3 (z_ln SH a_5) = true then z_rd (M.2.1 x0 24) fun a_7 => if z_ix x3 (z_ln SH a_7) = true then z_call (f_X12_comesTo x0 (M.1 a_5 (x3 : Int32).toNatClampNeg) (M.1 a_7 (x3 : Int32).toNatClampNeg) M) fun v_9 M_10 => (if v_9 = 1 then z_rd (M_10.2.1 x0 22) fun a_13 => if z_ix x3 (z_ln SH a_13) = true then z_rd (M_10.2.1 x0 23) fun a_15 => if z_ix x3 (z_ln SH a_15) = true then z_call (f_X12_comesTo x0 (M_10.1 a_13 (x3 : Int32).toNatClampNeg) (M_10.1 a_15 (x3 : Int32).toNatClampNeg) M_10) fun v_17 M_18 => (if 0 ≤ v_17 then (if v_17 ≤ x2 then some (v_17, M_18) else some (x2, M_18)) else some (0, M_18)) else none else none else (f_X12_byLaw_83 x0 x1 x2 (f_X12_byLaw_2 x0 x1 x2 n) x3 M_10)) else none else none else (f_X12_byLaw_83 x0 x1 x2 (f_X12_byLaw_2 x0 x1 x2 n) x3 M)) else none)
set_option maxHeartbeats 2000000 in
set_option maxRecDepth 20000 in
theorem t_X12_byLaw_2 {l : Launch} {x0 : Nat} {x1 : Int32} {x2 : Int32} {MO : zM} {v : Int32} (h0 : z_tm SH 11 x0) : ∀ (n : Nat) (x3 : Int32) (M : zM), f_X12_byLaw_2 x0 x1 x2 n x3 M = some (v, MO) → zA l yX12_byLaw cX12_byLaw 5 (some .int) 3 0 0 SH.length (zDi SH v MO) 0 0 2 [(0, .ref x0), (1, .int x1), (2, .int x2), (3, .int x3)] [] SH M := by
  intro n
  induction n with
  | zero =>
    intro x3 M hf
    rw [f_X12_byLaw_2] at hf
    cases hf
  | succ n ih =>
    intro x3 M hf
    rw [f_X12_byLaw_2] at hf
    refine z_iload_n dX12_byLaw_2 rfl rfl ?_
    refine z_aload_n dX12_byLaw_3 rfl rfl ?_
    refine zgI fl_X12_217 h0 (fun _ => rfl) dX12_byLaw_4 ?_
    refine z_icmp_ge (tgt := 89) dX12_byLaw_7 (by decide) (fun q_1 => ?_) (fun q_1 => ?_)
    · have hf := (if_pos q_1).symm.trans hf
      refine z_iconst (v := 0) dX12_byLaw_89 (by decide) ?_
      obtain ⟨rfl, rfl⟩ := z_end hf
      exact z_iret ⟨rfl, rfl, rfl⟩ (Or.inl rfl) dX12_byLaw_90
    · have hf := (if_neg q_1).symm.trans hf
      refine z_aload_n dX12_byLaw_10 rfl rfl ?_
      obtain ⟨a_2, ra_2, hf⟩ := z_rd_some hf
      refine zgR fl_X12_44 h0 (fun _ => rfl) ra_2 dX12_byLaw_11 (fun ha_2 => ?_)
      refine z_iload_n dX12_byLaw_14 rfl rfl ?_
      obtain ⟨g_3, hf⟩ := z_ifs hf
      refine z_iald ha_2 g_3 rfl dX12_byLaw_15 ?_
      refine z_iload_n dX12_byLaw_16 rfl rfl ?_
      refine z_icmp_ne (tgt := 83) dX12_byLaw_17 (by decide) (fun q_4 => ?_) (fun q_4 => ?_)
      · have hf := (if_neg q_4).symm.trans hf
        exact t_X12_byLaw_83 h0 ih hf
      · have hf := (if_pos q_4).symm.trans hf
        refine z_aload_n dX12_byLaw_20 rfl rfl ?_
        refine z_aload_n dX12_byLaw_21 rfl rfl ?_
        obtain ⟨a_5, ra_5, hf⟩ := z_rd_some hf
        refine zgR fl_X12_50 h0 (fun _ => rfl) ra_5 dX12_byLaw_22 (fun ha_5 => ?_)
        refine z_iload_n dX12_byLaw_25 rfl rfl ?_
        obtain ⟨g_6, hf⟩ := z_ifs hf
        refine z_iald ha_5 g_6 rfl dX12_byLaw_26 ?_
        refine z_aload_n dX12_byLaw_27 rfl rfl ?_
        obtain ⟨a_7, ra_7, hf⟩ := z_rd_some hf
        refine zgR fl_X12_53 h0 (fun _ => rfl) ra_7 dX12_byLaw_28 (fun ha_7 => ?_)
        refine z_iload_n dX12_byLaw_31 rfl rfl ?_
        obtain ⟨g_8, hf⟩ := z_ifs hf
        refine z_iald ha_7 g_8 rfl dX12_byLaw_32 ?_
        obtain ⟨v_9, M_10, c_11, hf⟩ := z_call_some hf
        refine z_cVi (t_X12_comesTo h0 c_11) kw_X12_comesTo lk_X12_224 h0 rfl (by decide) rfl (Nat.le_of_ble_eq_true rfl) ⟨Nat.le_refl 0, Nat.le_refl 0⟩ dX12_byLaw_33 ?_
        refine z_iconst (v := 1) dX12_byLaw_36 (by decide) ?_
        refine z_icmp_eq (tgt := 43) dX12_byLaw_37 (by decide) (fun q_12 => ?_) (fun q_12 => ?_)
        · have hf := (if_pos q_12).symm.trans hf
          refine z_aload_n dX12_byLaw_43 rfl rfl ?_
          refine z_aload_n dX12_byLaw_44 rfl rfl ?_
          obtain ⟨a_13, ra_13, hf⟩ := z_rd_some hf
          refine zgR fl_X12_47 h0 (fun _ => rfl) ra_13 dX12_byLaw_45 (fun ha_13 => ?_)
          refine z_iload_n dX12_byLaw_48 rfl rfl ?_
          obtain ⟨g_14, hf⟩ := z_ifs hf
          refine z_iald ha_13 g_14 rfl dX12_byLaw_49 ?_
          refine z_aload_n dX12_byLaw_50 rfl rfl ?_
          obtain ⟨a_15, ra_15, hf⟩ := z_rd_some hf
          refine zgR fl_X12_50 h0 (fun _ => rfl) ra_15 dX12_byLaw_51 (fun ha_15 => ?_)
          refine z_iload_n dX12_byLaw_54 rfl rfl ?_
          obtain ⟨g_16, hf⟩ := z_ifs hf
          refine z_iald ha_15 g_16 rfl dX12_byLaw_55 ?_
          obtain ⟨v_17, M_18, c_19, hf⟩ := z_call_some hf
          refine z_cVi (t_X12_comesTo h0 c_19) kw_X12_comesTo lk_X12_224 h0 rfl (by decide) rfl (Nat.le_of_ble_eq_true rfl) ⟨Nat.le_refl 0, Nat.le_refl 0⟩ dX12_byLaw_56 ?_
          refine z_istore' (lv' := [(4, .int v_17), (0, .ref x0), (1, .int x1), (2, .int x2), (3, .int x3)]) dX12_byLaw_59 (by decide) rfl rfl ?_
          refine z_iload dX12_byLaw_61 rfl ?_
          refine z_if_ge (tgt := 70) dX12_byLaw_63 (by decide) (fun q_20 => ?_) (fun q_20 => ?_)
          · have hf := (if_pos q_20).symm.trans hf
            refine z_iload dX12_byLaw_70 rfl ?_
            refine z_iload_n dX12_byLaw_72 rfl rfl ?_
            refine z_icmp_le (tgt := 80) dX12_byLaw_73 (by decide) (fun q_21 => ?_) (fun q_21 => ?_)
            · have hf := (if_pos q_21).symm.trans hf
              refine z_iload dX12_byLaw_80 rfl ?_
              obtain ⟨rfl, rfl⟩ := z_end hf
              exact z_iret ⟨rfl, rfl, rfl⟩ (Or.inl rfl) dX12_byLaw_82
            · have hf := (if_neg q_21).symm.trans hf
              refine z_iload_n dX12_byLaw_76 rfl rfl ?_
              refine z_goto (tgt := 82) dX12_byLaw_77 (by decide) ?_
              obtain ⟨rfl, rfl⟩ := z_end hf
              exact z_iret ⟨rfl, rfl, rfl⟩ (Or.inl rfl) dX12_byLaw_82
          · have hf := (if_neg q_20).symm.trans hf
            refine z_iconst (v := 0) dX12_byLaw_66 (by decide) ?_
            refine z_goto (tgt := 82) dX12_byLaw_67 (by decide) ?_
            obtain ⟨rfl, rfl⟩ := z_end hf
            exact z_iret ⟨rfl, rfl, rfl⟩ (Or.inl rfl) dX12_byLaw_82
        · have hf := (if_neg q_12).symm.trans hf
          refine z_goto (tgt := 83) dX12_byLaw_40 (by decide) ?_
          exact t_X12_byLaw_83 h0 ih hf
noncomputable def f_X12_byLaw (x0 : Nat) (x1 : Int32) (x2 : Int32) (M : zM) : Option (Int32 × zM) :=
  (f_X12_byLaw_2 x0 x1 x2 zF 0 M)
set_option maxHeartbeats 2000000 in
set_option maxRecDepth 20000 in
theorem t_X12_byLaw {l : Launch} {x0 : Nat} {x1 : Int32} {x2 : Int32} {M MO : zM} {v : Int32} (h0 : z_tm SH 11 x0) (hf : f_X12_byLaw x0 x1 x2 M = some (v, MO)) : zMet l yX12_byLaw cX12_byLaw 5 (some .int) 3 0 0 [.ref x0, .int x1, .int x2] SH M (zDi SH v MO) := by
  refine zMet.of (by decide +kernel) (Nat.le_of_ble_eq_true rfl) (Or.inr (Or.inl rfl)) ?_
  show zA l yX12_byLaw cX12_byLaw 5 (some .int) 3 0 0 SH.length (zDi SH v MO) 0 0 0 [(0, .ref x0), (1, .int x1), (2, .int x2)] [] SH M
  unfold f_X12_byLaw at hf
  refine z_iconst (v := 0) dX12_byLaw_0 (by decide) ?_
  refine z_istore_n' (lv' := [(3, .int 0), (0, .ref x0), (1, .int x1), (2, .int x2)]) rfl dX12_byLaw_1 (by decide) rfl rfl ?_
  refine zA.pick [(0, .ref x0), (1, .int x1), (2, .int x2), (3, .int 0)] [1, 2, 3, 0] rfl ?_
  exact t_X12_byLaw_2 h0 zF 0 M hf
