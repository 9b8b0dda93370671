noncomputable def f_X12_holdsAny_42 (x0 : Nat) (x1 : Int32) (k2 : Int32 → zM → Option (Int32 × zM)) (x2 : Int32) (M : zM) : Option (Int32 × zM) :=
  zl (x2 + 1) fun x2_1 => (k2 x2_1 M)
set_option maxHeartbeats 2000000 in
set_option maxRecDepth 20000 in
theorem t_X12_holdsAny_42 {l : Launch} {x0 : Nat} {x1 : Int32} {k2 : Int32 → zM → Option (Int32 × zM)} {x2 : Int32} {M MO : zM} {v : Int32} (h0 : z_tm SH 11 x0) (hk2 : ∀ (x2 : Int32) (M : zM), k2 x2 M = some (v, MO) → zA l yX12_holdsAny cX12_holdsAny 3 (some .boolean) 3 0 0 SH.length (zDi SH v MO) 0 0 2 [(0, .ref x0), (1, .int x1), (2, .int x2)] [] SH M) (hf : f_X12_holdsAny_42 x0 x1 k2 x2 M = some (v, MO)) : zA l yX12_holdsAny cX12_holdsAny 3 (some .boolean) 3 0 0 SH.length (zDi SH v MO) 0 0 42 [(0, .ref x0), (1, .int x1), (2, .int x2)] [] SH M := by
  unfold f_X12_holdsAny_42 at hf
  obtain ⟨x2_1, ex2_1, hf⟩ := zl_some hf
  refine z_iinc' (lv' := [(2, .int x2_1), (0, .ref x0), (1, .int x1)]) dX12_holdsAny_42 rfl (by decide) ex2_1 (by decide) rfl ?_
  refine z_goto (tgt := 2) dX12_holdsAny_45 (by decide) ?_
  refine zA.pick [(0, .ref x0), (1, .int x1), (2, .int x2_1)] [1, 2, 0] rfl ?_
  exact hk2 x2_1 M hf
noncomputable def f_X12_holdsAny_2 (x0 : Nat) (x1 : Int32) : Nat → Int32 → zM → Option (Int32 × zM)
  | 0, _, _ => none
  | n + 1, x2, M =>
    (if (M.1 x0 13) ≤ x2 then some (0, M) else z_rd (M.2.1 x0 21) fun a_2 => if z_ix x2 (z_ln SH a_2) = true then (if (M.1 a_2 (x2 : Int32).toNatClampNeg) = x1 then z_rd (M.2.1 x0 23) fun a_5 => if z_ix x2 (z_ln SH a_5) = true then z_rd (M.2.1 x0 24) fun a_7 => if z_ix x2 (z_ln SH a_7) = true then z_call (f_X12_comesTo x0 (M.1 a_5 (x2 : Int32).toNatClampNeg) (M.1 a_7 (x2 : Int32).toNatClampNeg) M) fun v_9 M_10 => (if v_9 = 1 then some (1, M_10) else (f_X12_holdsAny_42 x0 x1 (f_X12_holdsAny_2 x0 x1 n) x2 M_10)) else none else none else (f_X12_holdsAny_42 x0 x1 (f_X12_holdsAny_2 x0 x1 n) x2 M)) else none)
set_option maxHeartbeats 2000000 in
set_option maxRecDepth 20000 in
theorem t_X12_holdsAny_2 {l : Launch} {x0 : Nat} {x1 : Int32} {MO : zM} {v : Int32} (h0 : z_tm SH 11 x0) : ∀ (n : Nat) (x2 : Int32) (M : zM), f_X12_holdsAny_2 x0 x1 n x2 M = some (v, MO) → zA l yX12_holdsAny cX12_holdsAny 3 (some .boolean) 3 0 0 SH.length (zDi SH v MO) 0 0 2 [(0, .ref x0), (1, .int x1), (2, .int x2)] [] SH M := by
  intro n
  induction n with
  | zero =>
    intro x2 M hf
    rw [f_X12_holdsAny_2] at hf
    cases hf
  | succ n ih =>
    intro x2 M hf
    rw [f_X12_holdsAny_2] at hf
    refine z_iload_n dX12_holdsAny_2 rfl rfl ?_
    refine z_aload_n dX12_holdsAny_3 rfl rfl ?_
    refine zgI fl_X12_217 h0 (fun _ => rfl) dX12_holdsAny_4 ?_
    refine z_icmp_ge (tgt := 48) dX12_holdsAny_7 (by decide) (fun q_1 => ?_) (fun q_1 => ?_)
    · have hf := (if_pos q_1).symm.trans hf
      refine z_iconst (v := 0) dX12_holdsAny_48 (by decide) ?_
      obtain ⟨rfl, rfl⟩ := z_end hf
      exact z_iret ⟨rfl, rfl, rfl⟩ (Or.inr ⟨rfl, (Or.inl rfl)⟩) dX12_holdsAny_49
    · have hf := (if_neg q_1).symm.trans hf
      refine z_aload_n dX12_holdsAny_10 rfl rfl ?_
      obtain ⟨a_2, ra_2, hf⟩ := z_rd_some hf
      refine zgR fl_X12_44 h0 (fun _ => rfl) ra_2 dX12_holdsAny_11 (fun ha_2 => ?_)
      refine z_iload_n dX12_holdsAny_14 rfl rfl ?_
      obtain ⟨g_3, hf⟩ := z_ifs hf
      refine z_iald ha_2 g_3 rfl dX12_holdsAny_15 ?_
      refine z_iload_n dX12_holdsAny_16 rfl rfl ?_
      refine z_icmp_ne (tgt := 42) dX12_holdsAny_17 (by decide) (fun q_4 => ?_) (fun q_4 => ?_)
      · have hf := (if_neg q_4).symm.trans hf
        exact t_X12_holdsAny_42 h0 ih hf
      · have hf := (if_pos q_4).symm.trans hf
        refine z_aload_n dX12_holdsAny_20 rfl rfl ?_
        refine z_aload_n dX12_holdsAny_21 rfl rfl ?_
        obtain ⟨a_5, ra_5, hf⟩ := z_rd_some hf
        refine zgR fl_X12_50 h0 (fun _ => rfl) ra_5 dX12_holdsAny_22 (fun ha_5 => ?_)
        refine z_iload_n dX12_holdsAny_25 rfl rfl ?_
        obtain ⟨g_6, hf⟩ := z_ifs hf
        refine z_iald ha_5 g_6 rfl dX12_holdsAny_26 ?_
        refine z_aload_n dX12_holdsAny_27 rfl rfl ?_
        obtain ⟨a_7, ra_7, hf⟩ := z_rd_some hf
        refine zgR fl_X12_53 h0 (fun _ => rfl) ra_7 dX12_holdsAny_28 (fun ha_7 => ?_)
        refine z_iload_n dX12_holdsAny_31 rfl rfl ?_
        obtain ⟨g_8, hf⟩ := z_ifs hf
        refine z_iald ha_7 g_8 rfl dX12_holdsAny_32 ?_
        obtain ⟨v_9, M_10, c_11, hf⟩ := z_call_some hf
        refine z_cVi (t_X12_comesTo h0 c_11) kw_X12_comesTo lk_X12_224 h0 rfl (by decide) rfl (Nat.le_of_ble_eq_true rfl) ⟨Nat.le_refl 0, Nat.le_refl 0⟩ dX12_holdsAny_33 ?_
        refine z_iconst (v := 1) dX12_holdsAny_36 (by decide) ?_
        refine z_icmp_ne (tgt := 42) dX12_holdsAny_37 (by decide) (fun q_12 => ?_) (fun q_12 => ?_)
        · have hf := (if_neg q_12).symm.trans hf
          exact t_X12_holdsAny_42 h0 ih hf
        · have hf := (if_pos q_12).symm.trans hf
          refine z_iconst (v := 1) dX12_holdsAny_40 (by decide) ?_
          obtain ⟨rfl, rfl⟩ := z_end hf
          exact z_iret ⟨rfl, rfl, rfl⟩ (Or.inr ⟨rfl, (Or.inr rfl)⟩) dX12_holdsAny_41
noncomputable def f_X12_holdsAny (x0 : Nat) (x1 : Int32) (M : zM) : Option (Int32 × zM) :=
  (f_X12_holdsAny_2 x0 x1 zF 0 M)
set_option maxHeartbeats 2000000 in
set_option maxRecDepth 20000 in
theorem t_X12_holdsAny {l : Launch} {x0 : Nat} {x1 : Int32} {M MO : zM} {v : Int32} (h0 : z_tm SH 11 x0) (hf : f_X12_holdsAny x0 x1 M = some (v, MO)) : zMet l yX12_holdsAny cX12_holdsAny 3 (some .boolean) 3 0 0 [.ref x0, .int x1] SH M (zDi SH v MO) := by
  refine zMet.of (by decide +kernel) (Nat.le_of_ble_eq_true rfl) (Or.inr (Or.inr (Or.inl rfl))) ?_
  show zA l yX12_holdsAny cX12_holdsAny 3 (some .boolean) 3 0 0 SH.length (zDi SH v MO) 0 0 0 [(0, .ref x0), (1, .int x1)] [] SH M
  unfold f_X12_holdsAny at hf
  refine z_iconst (v := 0) dX12_holdsAny_0 (by decide) ?_
  refine z_istore_n' (lv' := [(2, .int 0), (0, .ref x0), (1, .int x1)]) rfl dX12_holdsAny_1 (by decide) rfl rfl ?_
  refine zA.pick [(0, .ref x0), (1, .int x1), (2, .int 0)] [1, 2, 0] rfl ?_
  exact t_X12_holdsAny_2 h0 zF 0 M hf
noncomputable def f_X12_asks (x0 : Nat) (x1 : Int32) (x2 : Int32) (x3 : Int32) (M : zM) : Option (Unit × zM) :=
  z_rd (M.2.1 x0 26) fun a_1 => if z_ix 0 (z_ln SH a_1) = true then zl (zu M.1 a_1 (0 : Int32).toNatClampNeg x1, M.2) fun M_3 => z_rd (M_3.2.1 x0 26) fun a_4 => z_rd (M_3.2.1 x0 0) fun a_5 => if z_ix (24 + x1) (z_ln SH a_5) = true then if z_ix 1 (z_ln SH a_4) = true then zl (zu M_3.1 a_4 (1 : Int32).toNatClampNeg (M_3.1 a_5 ((24 + x1) : Int32).toNatClampNeg), M_3.2) fun M_8 => z_rd (M_8.2.1 x0 26) fun a_9 => if z_ix 2 (z_ln SH a_9) = true then zl (zu M_8.1 a_9 (2 : Int32).toNatClampNeg x2, M_8.2) fun M_11 => z_rd (M_11.2.1 x0 26) fun a_12 => if z_ix 3 (z_ln SH a_12) = true then zl (zu M_11.1 a_12 (3 : Int32).toNatClampNeg (x2 / 4), M_11.2) fun M_14 => z_rd (M_14.2.1 x0 26) fun a_15 => z_call (f_X12_feltIn x0 x2 M_14) fun v_16 M_17 => if z_ix 4 (z_ln SH a_15) = true then zl (zu M_17.1 a_15 (4 : Int32).toNatClampNeg v_16, M_17.2) fun M_20 => z_rd (M_20.2.1 x0 26) fun a_21 => z_rd (M_20.2.1 x0 0) fun a_22 => if z_ix (96 + x2) (z_ln SH a_22) = true then if z_ix 5 (z_ln SH a_21) = true then zl (zu M_20.1 a_21 (5 : Int32).toNatClampNeg (M_20.1 a_22 ((96 + x2) : Int32).toNatClampNeg), M_20.2) fun M_25 => z_rd (M_25.2.1 x0 26) fun a_26 => if z_ix 6 (z_ln SH a_26) = true then zl (zu M_25.1 a_26 (6 : Int32).toNatClampNeg x3, M_25.2) fun M_28 => z_rd (M_28.2.1 x0 26) fun a_29 => z_rd (M_28.2.1 x0 0) fun a_30 => if z_ix 697 (z_ln SH a_30) = true then if z_ix 7 (z_ln SH a_29) = true then zl (zu M_28.1 a_29 (7 : Int32).toNatClampNeg ((M_28.1 a_30 (697 : Int32).toNatClampNeg) - (M_28.1 a_30 (697 : Int32).toNatClampNeg) / 24 * 24), M_28.2) fun M_33 => some ((), M_33) else none else none else none else none else none else none else none else none else none else none else none
set_option maxHeartbeats 2000000 in
set_option maxRecDepth 20000 in
theorem t_X12_asks {l : Launch} {x0 : Nat} {x1 : Int32} {x2 : Int32} {x3 : Int32} {M MO : zM} {v : Unit} (h0 : z_tm SH 11 x0) (hf : f_X12_asks x0 x1 x2 x3 M = some (v, MO)) : zMet l yX12_asks cX12_asks 4 none 3 0 0 [.ref x0, .int x1, .int x2, .int x3] SH M (zDv SH MO) := by
  refine zMet.of (by decide +kernel) (Nat.le_of_ble_eq_true rfl) (Or.inl rfl) ?_
  show zA l yX12_asks cX12_asks 4 none 3 0 0 SH.length (zDv SH MO) 0 0 0 [(0, .ref x0), (1, .int x1), (2, .int x2), (3, .int x3)] [] SH M
  unfold f_X12_asks at hf
  refine z_aload_n dX12_asks_0 rfl rfl ?_
  obtain ⟨a_1, ra_1, hf⟩ := z_rd_some hf
  refine zgR fl_X12_59 h0 (fun _ => rfl) ra_1 dX12_asks_1 (fun ha_1 => ?_)
  refine z_iconst (v := 0) dX12_asks_4 (by decide) ?_
  refine z_iload_n dX12_asks_5 rfl rfl ?_
  obtain ⟨g_2, hf⟩ := z_ifs hf
  obtain ⟨M_3, eM_3, hf⟩ := zl_some hf
  refine z_iast ha_1 g_2 eM_3 dX12_asks_6 ?_
  refine z_aload_n dX12_asks_7 rfl rfl ?_
  obtain ⟨a_4, ra_4, hf⟩ := z_rd_some hf
  refine zgR fl_X12_59 h0 (fun _ => rfl) ra_4 dX12_asks_8 (fun ha_4 => ?_)
  refine z_iconst (v := 1) dX12_asks_11 (by decide) ?_
  refine z_aload_n dX12_asks_12 rfl rfl ?_
  obtain ⟨a_5, ra_5, hf⟩ := z_rd_some hf
  refine zgR fl_X12_7 h0 (fun _ => rfl) ra_5 dX12_asks_13 (fun ha_5 => ?_)
  refine z_bipush (v := 24) dX12_asks_16 (by decide) ?_
  refine z_iload_n dX12_asks_18 rfl rfl ?_
  refine z_iadd dX12_asks_19 ?_
  obtain ⟨g_6, hf⟩ := z_ifs hf
  refine z_iald ha_5 g_6 rfl dX12_asks_20 ?_
  obtain ⟨g_7, hf⟩ := z_ifs hf
  obtain ⟨M_8, eM_8, hf⟩ := zl_some hf
  refine z_iast ha_4 g_7 eM_8 dX12_asks_21 ?_
  refine z_aload_n dX12_asks_22 rfl rfl ?_
  obtain ⟨a_9, ra_9, hf⟩ := z_rd_some hf
  refine zgR fl_X12_59 h0 (fun _ => rfl) ra_9 dX12_asks_23 (fun ha_9 => ?_)
  refine z_iconst (v := 2) dX12_asks_26 (by decide) ?_
  refine z_iload_n dX12_asks_27 rfl rfl ?_
  obtain ⟨g_10, hf⟩ := z_ifs hf
  obtain ⟨M_11, eM_11, hf⟩ := zl_some hf
  refine z_iast ha_9 g_10 eM_11 dX12_asks_28 ?_
  refine z_aload_n dX12_asks_29 rfl rfl ?_
  obtain ⟨a_12, ra_12, hf⟩ := z_rd_some hf
  refine zgR fl_X12_59 h0 (fun _ => rfl) ra_12 dX12_asks_30 (fun ha_12 => ?_)
  refine z_iconst (v := 3) dX12_asks_33 (by decide) ?_
  refine z_iload_n dX12_asks_34 rfl rfl ?_
  refine z_iconst (v := 4) dX12_asks_35 (by decide) ?_
  refine z_idiv dX12_asks_36 (by decide) ?_
  obtain ⟨g_13, hf⟩ := z_ifs hf
  obtain ⟨M_14, eM_14, hf⟩ := zl_some hf
  refine z_iast ha_12 g_13 eM_14 dX12_asks_37 ?_
  refine z_aload_n dX12_asks_38 rfl rfl ?_
  obtain ⟨a_15, ra_15, hf⟩ := z_rd_some hf
  refine zgR fl_X12_59 h0 (fun _ => rfl) ra_15 dX12_asks_39 (fun ha_15 => ?_)
  refine z_iconst (v := 4) dX12_asks_42 (by decide) ?_
  refine z_aload_n dX12_asks_43 rfl rfl ?_
  refine z_iload_n dX12_asks_44 rfl rfl ?_
  obtain ⟨v_16, M_17, c_18, hf⟩ := z_call_some hf
  refine z_cVi (t_X12_feltIn h0 c_18) kw_X12_feltIn lk_X12_227 h0 rfl (by decide) rfl (Nat.le_of_ble_eq_true rfl) ⟨Nat.le_refl 0, Nat.le_refl 0⟩ dX12_asks_45 ?_
  obtain ⟨g_19, hf⟩ := z_ifs hf
  obtain ⟨M_20, eM_20, hf⟩ := zl_some hf
  refine z_iast ha_15 g_19 eM_20 dX12_asks_48 ?_
  refine z_aload_n dX12_asks_49 rfl rfl ?_
  obtain ⟨a_21, ra_21, hf⟩ := z_rd_some hf
  refine zgR fl_X12_59 h0 (fun _ => rfl) ra_21 dX12_asks_50 (fun ha_21 => ?_)
  refine z_iconst (v := 5) dX12_asks_53 (by decide) ?_
  refine z_aload_n dX12_asks_54 rfl rfl ?_
  obtain ⟨a_22, ra_22, hf⟩ := z_rd_some hf
  refine zgR fl_X12_7 h0 (fun _ => rfl) ra_22 dX12_asks_55 (fun ha_22 => ?_)
  refine z_bipush (v := 96) dX12_asks_58 (by decide) ?_
  refine z_iload_n dX12_asks_60 rfl rfl ?_
  refine z_iadd dX12_asks_61 ?_
  obtain ⟨g_23, hf⟩ := z_ifs hf
  refine z_iald ha_22 g_23 rfl dX12_asks_62 ?_
  obtain ⟨g_24, hf⟩ := z_ifs hf
  obtain ⟨M_25, eM_25, hf⟩ := zl_some hf
  refine z_iast ha_21 g_24 eM_25 dX12_asks_63 ?_
  refine z_aload_n dX12_asks_64 rfl rfl ?_
  obtain ⟨a_26, ra_26, hf⟩ := z_rd_some hf
  refine zgR fl_X12_59 h0 (fun _ => rfl) ra_26 dX12_asks_65 (fun ha_26 => ?_)
  refine z_bipush (v := 6) dX12_asks_68 (by decide) ?_
  refine z_iload_n dX12_asks_70 rfl rfl ?_
  obtain ⟨g_27, hf⟩ := z_ifs hf
  obtain ⟨M_28, eM_28, hf⟩ := zl_some hf
  refine z_iast ha_26 g_27 eM_28 dX12_asks_71 ?_
  refine z_aload_n dX12_asks_72 rfl rfl ?_
  obtain ⟨a_29, ra_29, hf⟩ := z_rd_some hf
  refine zgR fl_X12_59 h0 (fun _ => rfl) ra_29 dX12_asks_73 (fun ha_29 => ?_)
  refine z_bipush (v := 7) dX12_asks_76 (by decide) ?_
  refine z_aload_n dX12_asks_78 rfl rfl ?_
  obtain ⟨a_30, ra_30, hf⟩ := z_rd_some hf
  refine zgR fl_X12_7 h0 (fun _ => rfl) ra_30 dX12_asks_79 (fun ha_30 => ?_)
  refine z_sipush (v := 697) dX12_asks_82 (by decide) ?_
  obtain ⟨g_31, hf⟩ := z_ifs hf
  refine z_iald ha_30 g_31 rfl dX12_asks_85 ?_
  refine z_bipush (v := 24) dX12_asks_86 (by decide) ?_
  refine z_irem dX12_asks_88 (by decide) ?_
  obtain ⟨g_32, hf⟩ := z_ifs hf
  obtain ⟨M_33, eM_33, hf⟩ := zl_some hf
  refine z_iast ha_29 g_32 eM_33 dX12_asks_89 ?_
  obtain ⟨rfl, rfl⟩ := z_end hf
  exact z_vret ⟨rfl, rfl, rfl⟩ rfl dX12_asks_90
noncomputable def f_X12_readsAmount_27 (x0 : Nat) (x1 : Int32) : Nat → Int32 → zM → Option (Int32 × zM)
  | 0, _, _ => none
  | n + 1, x2, M =>
    z_call (f_X12_isDigit x0 M) fun v_1 M_2 => (if v_1 = 0 then some (1, M_2) else (if (M_2.1 x0 5) = (x2 + x1) then z_call (f_X12_wrongAt x0 2 (M_2.1 x0 5) M_2) fun v_11 M_12 => if ((v_11 : Int32) = 0 ∨ (v_11 : Int32) = 1) then some (v_11, M_12) else none else z_call (f_X12_here x0 M_2) fun v_6 M_7 => zl (zu M_7.1 x0 8 (((10 * (M_2.1 x0 8)) + v_6) - 48), M_7.2) fun M_9 => zl (zu M_9.1 x0 5 ((M_9.1 x0 5) + 1), M_9.2) fun M_10 => (f_X12_readsAmount_27 x0 x1 n x2 M_10)))
set_option maxHeartbeats 2000000 in
set_option maxRecDepth 20000 in
theorem t_X12_readsAmount_27 {l : Launch} {x0 : Nat} {x1 : Int32} {MO : zM} {v : Int32} (h0 : z_tm SH 11 x0) : ∀ (n : Nat) (x2 : Int32) (M : zM), f_X12_readsAmount_27 x0 x1 n x2 M = some (v, MO) → zA l yX12_readsAmount cX12_readsAmount 3 (some .boolean) 3 0 0 SH.length (zDi SH v MO) 0 0 27 [(0, .ref x0), (1, .int x1), (2, .int x2)] [] SH M := by
  intro n
  induction n with
  | zero =>
    intro x2 M hf
    rw [f_X12_readsAmount_27] at hf
    cases hf
  | succ n ih =>
    intro x2 M hf
    rw [f_X12_readsAmount_27] at hf
    refine z_aload_n dX12_readsAmount_27 rfl rfl ?_
    obtain ⟨v_1, M_2, c_3, hf⟩ := z_call_some hf
    refine z_cVi (t_X12_isDigit h0 c_3) kw_X12_isDigit lk_X12_143 h0 rfl (by decide) rfl (Nat.le_of_ble_eq_true rfl) ⟨Nat.le_refl 0, Nat.le_refl 0⟩ dX12_readsAmount_28 ?_
    refine z_if_eq (tgt := 86) dX12_readsAmount_31 (by decide) (fun q_4 => ?_) (fun q_4 => ?_)
    · have hf := (if_pos q_4).symm.trans hf
      refine z_iconst (v := 1) dX12_readsAmount_86 (by decide) ?_
      obtain ⟨rfl, rfl⟩ := z_end hf
      exact z_iret ⟨rfl, rfl, rfl⟩ (Or.inr ⟨rfl, (Or.inr rfl)⟩) dX12_readsAmount_87
    · have hf := (if_neg q_4).symm.trans hf
      refine z_aload_n dX12_readsAmount_34 rfl rfl ?_
      refine zgI fl_X12_123 h0 (fun _ => rfl) dX12_readsAmount_35 ?_
      refine z_iload_n dX12_readsAmount_38 rfl rfl ?_
      refine z_iload_n dX12_readsAmount_39 rfl rfl ?_
      refine z_iadd dX12_readsAmount_40 ?_
      refine z_icmp_ne (tgt := 54) dX12_readsAmount_41 (by decide) (fun q_5 => ?_) (fun q_5 => ?_)
      · have hf := (if_neg q_5).symm.trans hf
        refine z_aload_n dX12_readsAmount_54 rfl rfl ?_
        refine z_bipush (v := 10) dX12_readsAmount_55 (by decide) ?_
        refine z_aload_n dX12_readsAmount_57 rfl rfl ?_
        refine zgI fl_X12_140 h0 (fun _ => rfl) dX12_readsAmount_58 ?_
        refine z_imul dX12_readsAmount_61 ?_
        refine z_aload_n dX12_readsAmount_62 rfl rfl ?_
        obtain ⟨v_6, M_7, c_8, hf⟩ := z_call_some hf
        refine z_cVi (t_X12_here h0 c_8) kw_X12_here lk_X12_129 h0 rfl (by decide) rfl (Nat.le_of_ble_eq_true rfl) ⟨Nat.le_refl 0, Nat.le_refl 0⟩ dX12_readsAmount_63 ?_
        refine z_iadd dX12_readsAmount_66 ?_
        refine z_bipush (v := 48) dX12_readsAmount_67 (by decide) ?_
        refine z_isub dX12_readsAmount_69 ?_
        obtain ⟨M_9, eM_9, hf⟩ := zl_some hf
        refine zpI fl_X12_140 h0 rfl (Or.inl rfl) eM_9 dX12_readsAmount_70 ?_
        refine z_aload_n dX12_readsAmount_73 rfl rfl ?_
        refine z_aload_n dX12_readsAmount_74 rfl rfl ?_
        refine zgI fl_X12_123 h0 (fun _ => rfl) dX12_readsAmount_75 ?_
        refine z_iconst (v := 1) dX12_readsAmount_78 (by decide) ?_
        refine z_iadd dX12_readsAmount_79 ?_
        obtain ⟨M_10, eM_10, hf⟩ := zl_some hf
        refine zpI fl_X12_123 h0 rfl (Or.inl rfl) eM_10 dX12_readsAmount_80 ?_
        refine z_goto (tgt := 27) dX12_readsAmount_83 (by decide) ?_
        exact ih x2 M_10 hf
      · have hf := (if_pos q_5).symm.trans hf
        refine z_aload_n dX12_readsAmount_44 rfl rfl ?_
        refine z_iconst (v := 2) dX12_readsAmount_45 (by decide) ?_
        refine z_aload_n dX12_readsAmount_46 rfl rfl ?_
        refine zgI fl_X12_123 h0 (fun _ => rfl) dX12_readsAmount_47 ?_
        obtain ⟨v_11, M_12, c_13, hf⟩ := z_call_some hf
        refine z_cVi (t_X12_wrongAt h0 c_13) kw_X12_wrongAt lk_X12_136 h0 rfl (by decide) rfl (Nat.le_of_ble_eq_true rfl) ⟨Nat.le_refl 0, Nat.le_refl 0⟩ dX12_readsAmount_50 ?_
        obtain ⟨g_14, hf⟩ := z_ifs hf
        obtain ⟨rfl, rfl⟩ := z_end hf
        exact z_iret ⟨rfl, rfl, rfl⟩ (Or.inr ⟨rfl, g_14⟩) dX12_readsAmount_53
noncomputable def f_X12_readsAmount (x0 : Nat) (x1 : Int32) (M : zM) : Option (Int32 × zM) :=
  zl ((M.1 x0 5)) fun x2_1 => z_call (f_X12_isDigit x0 M) fun v_2 M_3 => (if v_2 = 0 then z_call (f_X12_wrongAt x0 1 (M_3.1 x0 5) M_3) fun v_7 M_8 => if ((v_7 : Int32) = 0 ∨ (v_7 : Int32) = 1) then some (v_7, M_8) else none else zl (zu M_3.1 x0 8 0, M_3.2) fun M_6 => (f_X12_readsAmount_27 x0 x1 zF x2_1 M_6))
set_option maxHeartbeats 2000000 in
set_option maxRecDepth 20000 in
theorem t_X12_readsAmount {l : Launch} {x0 : Nat} {x1 : Int32} {M MO : zM} {v : Int32} (h0 : z_tm SH 11 x0) (hf : f_X12_readsAmount x0 x1 M = some (v, MO)) : zMet l yX12_readsAmount cX12_readsAmount 3 (some .boolean) 3 0 0 [.ref x0, .int x1] SH M (zDi SH v MO) := by
  refine zMet.of (by decide +kernel) (Nat.le_of_ble_eq_true rfl) (Or.inr (Or.inr (Or.inl rfl))) ?_
  show zA l yX12_readsAmount cX12_readsAmount 3 (some .boolean) 3 0 0 SH.length (zDi SH v MO) 0 0 0 [(0, .ref x0), (1, .int x1)] [] SH M
  unfold f_X12_readsAmount at hf
  refine z_aload_n dX12_readsAmount_0 rfl rfl ?_
  refine zgI fl_X12_123 h0 (fun _ => rfl) dX12_readsAmount_1 ?_
  obtain ⟨x2_1, ex2_1, hf⟩ := zl_some hf
  refine z_istore_n' (lv' := [(2, .int x2_1), (0, .ref x0), (1, .int x1)]) rfl dX12_readsAmount_4 (by decide) ex2_1 rfl ?_
  refine z_aload_n dX12_readsAmount_5 rfl rfl ?_
  obtain ⟨v_2, M_3, c_4, hf⟩ := z_call_some hf
  refine z_cVi (t_X12_isDigit h0 c_4) kw_X12_isDigit lk_X12_143 h0 rfl (by decide) rfl (Nat.le_of_ble_eq_true rfl) ⟨Nat.le_refl 0, Nat.le_refl 0⟩ dX12_readsAmount_6 ?_
  refine z_if_ne (tgt := 22) dX12_readsAmount_9 (by decide) (fun q_5 => ?_) (fun q_5 => ?_)
  · have hf := (if_neg q_5).symm.trans hf
    refine z_aload_n dX12_readsAmount_22 rfl rfl ?_
    refine z_iconst (v := 0) dX12_readsAmount_23 (by decide) ?_
    obtain ⟨M_6, eM_6, hf⟩ := zl_some hf
    refine zpI fl_X12_140 h0 rfl (Or.inl rfl) eM_6 dX12_readsAmount_24 ?_
    refine zA.pick [(0, .ref x0), (1, .int x1), (2, .int x2_1)] [1, 2, 0] rfl ?_
    exact t_X12_readsAmount_27 h0 zF x2_1 M_6 hf
  · have hf := (if_pos q_5).symm.trans hf
    refine z_aload_n dX12_readsAmount_12 rfl rfl ?_
    refine z_iconst (v := 1) dX12_readsAmount_13 (by decide) ?_
    refine z_aload_n dX12_readsAmount_14 rfl rfl ?_
    refine zgI fl_X12_123 h0 (fun _ => rfl) dX12_readsAmount_15 ?_
    obtain ⟨v_7, M_8, c_9, hf⟩ := z_call_some hf
    refine z_cVi (t_X12_wrongAt h0 c_9) kw_X12_wrongAt lk_X12_136 h0 rfl (by decide) rfl (Nat.le_of_ble_eq_true rfl) ⟨Nat.le_refl 0, Nat.le_refl 0⟩ dX12_readsAmount_18 ?_
    obtain ⟨g_10, hf⟩ := z_ifs hf
    obtain ⟨rfl, rfl⟩ := z_end hf
    exact z_iret ⟨rfl, rfl, rfl⟩ (Or.inr ⟨rfl, g_10⟩) dX12_readsAmount_21
noncomputable def f_X12_readsRoom (x0 : Nat) (M : zM) : Option (Int32 × zM) :=
  zl ((M.1 x0 5)) fun x1_1 => z_call (f_X12_readsAmount x0 2 M) fun v_2 M_3 => (if v_2 = 0 then some (0, M_3) else z_call (f_X12_isRoom (M_3.1 x0 8) M_3) fun v_6 M_7 => (if v_6 = 0 then z_call (f_X12_wrongAt x0 3 x1_1 M_7) fun v_10 M_11 => (if v_10 = 0 then some (0, M_11) else some (1, M_11)) else some (1, M_7)))
set_option maxHeartbeats 2000000 in
set_option maxRecDepth 20000 in
theorem t_X12_readsRoom {l : Launch} {x0 : Nat} {M MO : zM} {v : Int32} (h0 : z_tm SH 11 x0) (hf : f_X12_readsRoom x0 M = some (v, MO)) : zMet l yX12_readsRoom cX12_readsRoom 2 (some .boolean) 4 0 0 [.ref x0] SH M (zDi SH v MO) := by
  refine zMet.of (by decide +kernel) (Nat.le_of_ble_eq_true rfl) (Or.inr (Or.inr (Or.inl rfl))) ?_
  show zA l yX12_readsRoom cX12_readsRoom 2 (some .boolean) 4 0 0 SH.length (zDi SH v MO) 0 0 0 [(0, .ref x0)] [] SH M
  unfold f_X12_readsRoom at hf
  refine z_aload_n dX12_readsRoom_0 rfl rfl ?_
  refine zgI fl_X12_123 h0 (fun _ => rfl) dX12_readsRoom_1 ?_
  obtain ⟨x1_1, ex1_1, hf⟩ := zl_some hf
  refine z_istore_n' (lv' := [(1, .int x1_1), (0, .ref x0)]) rfl dX12_readsRoom_4 (by decide) ex1_1 rfl ?_
  refine z_aload_n dX12_readsRoom_5 rfl rfl ?_
  refine z_iconst (v := 2) dX12_readsRoom_6 (by decide) ?_
  obtain ⟨v_2, M_3, c_4, hf⟩ := z_call_some hf
  refine z_cVi (t_X12_readsAmount h0 c_4) kw_X12_readsAmount lk_X12_230 h0 rfl (by decide) rfl (Nat.le_of_ble_eq_true rfl) ⟨Nat.le_refl 0, Nat.le_refl 0⟩ dX12_readsRoom_7 ?_
  refine z_if_eq (tgt := 36) dX12_readsRoom_10 (by decide) (fun q_5 => ?_) (fun q_5 => ?_)
  · have hf := (if_pos q_5).symm.trans hf
    refine z_iconst (v := 0) dX12_readsRoom_36 (by decide) ?_
    obtain ⟨rfl, rfl⟩ := z_end hf
    exact z_iret ⟨rfl, rfl, rfl⟩ (Or.inr ⟨rfl, (Or.inl rfl)⟩) dX12_readsRoom_37
  · have hf := (if_neg q_5).symm.trans hf
    refine z_aload_n dX12_readsRoom_13 rfl rfl ?_
    refine zgI fl_X12_140 h0 (fun _ => rfl) dX12_readsRoom_14 ?_
    obtain ⟨v_6, M_7, c_8, hf⟩ := z_call_some hf
    refine z_cSi (t_X12_isRoom  c_8) kw_X12_isRoom lk_X12_107 rfl (by decide) rfl (Nat.le_of_ble_eq_true rfl) ⟨Nat.le_refl 0, Nat.le_refl 0⟩ dX12_readsRoom_17 ?_
    refine z_if_ne (tgt := 32) dX12_readsRoom_20 (by decide) (fun q_9 => ?_) (fun q_9 => ?_)
    · have hf := (if_neg q_9).symm.trans hf
      refine z_iconst (v := 1) dX12_readsRoom_32 (by decide) ?_
      refine z_goto (tgt := 37) dX12_readsRoom_33 (by decide) ?_
      obtain ⟨rfl, rfl⟩ := z_end hf
      exact z_iret ⟨rfl, rfl, rfl⟩ (Or.inr ⟨rfl, (Or.inr rfl)⟩) dX12_readsRoom_37
    · have hf := (if_pos q_9).symm.trans hf
      refine z_aload_n dX12_readsRoom_23 rfl rfl ?_
      refine z_iconst (v := 3) dX12_readsRoom_24 (by decide) ?_
      refine z_iload_n dX12_readsRoom_25 rfl rfl ?_
      obtain ⟨v_10, M_11, c_12, hf⟩ := z_call_some hf
      refine z_cVi (t_X12_wrongAt h0 c_12) kw_X12_wrongAt lk_X12_136 h0 rfl (by decide) rfl (Nat.le_of_ble_eq_true rfl) ⟨Nat.le_refl 0, Nat.le_refl 0⟩ dX12_readsRoom_26 ?_
      refine z_if_eq (tgt := 36) dX12_readsRoom_29 (by decide) (fun q_13 => ?_) (fun q_13 => ?_)
      · have hf := (if_pos q_13).symm.trans hf
        refine z_iconst (v := 0) dX12_readsRoom_36 (by decide) ?_
        obtain ⟨rfl, rfl⟩ := z_end hf
        exact z_iret ⟨rfl, rfl, rfl⟩ (Or.inr ⟨rfl, (Or.inl rfl)⟩) dX12_readsRoom_37
      · have hf := (if_neg q_13).symm.trans hf
        refine z_iconst (v := 1) dX12_readsRoom_32 (by decide) ?_
        refine z_goto (tgt := 37) dX12_readsRoom_33 (by decide) ?_
        obtain ⟨rfl, rfl⟩ := z_end hf
        exact z_iret ⟨rfl, rfl, rfl⟩ (Or.inr ⟨rfl, (Or.inr rfl)⟩) dX12_readsRoom_37
noncomputable def f_X12_swaps (x0 : Nat) (x1 : Int32) (x2 : Int32) (M : zM) : Option (Unit × zM) :=
  z_rd (M.2.1 x0 0) fun a_1 => if z_ix x1 (z_ln SH a_1) = true then zl ((M.1 a_1 (x1 : Int32).toNatClampNeg)) fun x3_3 => z_rd (M.2.1 x0 0) fun a_4 => z_rd (M.2.1 x0 0) fun a_5 => if z_ix x2 (z_ln SH a_5) = true then if z_ix x1 (z_ln SH a_4) = true then zl (zu M.1 a_4 (x1 : Int32).toNatClampNeg (M.1 a_5 (x2 : Int32).toNatClampNeg), M.2) fun M_8 => z_rd (M_8.2.1 x0 0) fun a_9 => if z_ix x2 (z_ln SH a_9) = true then zl (zu M_8.1 a_9 (x2 : Int32).toNatClampNeg x3_3, M_8.2) fun M_11 => some ((), M_11) else none else none else none else none
set_option maxHeartbeats 2000000 in
set_option maxRecDepth 20000 in
theorem t_X12_swaps {l : Launch} {x0 : Nat} {x1 : Int32} {x2 : Int32} {M MO : zM} {v : Unit} (h0 : z_tm SH 11 x0) (hf : f_X12_swaps x0 x1 x2 M = some (v, MO)) : zMet l yX12_swaps cX12_swaps 4 none 1 0 0 [.ref x0, .int x1, .int x2] SH M (zDv SH MO) := by
  refine zMet.of (by decide +kernel) (Nat.le_of_ble_eq_true rfl) (Or.inl rfl) ?_
  show zA l yX12_swaps cX12_swaps 4 none 1 0 0 SH.length (zDv SH MO) 0 0 0 [(0, .ref x0), (1, .int x1), (2, .int x2)] [] SH M
  unfold f_X12_swaps at hf
  refine z_aload_n dX12_swaps_0 rfl rfl ?_
  obtain ⟨a_1, ra_1, hf⟩ := z_rd_some hf
  refine zgR fl_X12_7 h0 (fun _ => rfl) ra_1 dX12_swaps_1 (fun ha_1 => ?_)
  refine z_iload_n dX12_swaps_4 rfl rfl ?_
  obtain ⟨g_2, hf⟩ := z_ifs hf
  refine z_iald ha_1 g_2 rfl dX12_swaps_5 ?_
  obtain ⟨x3_3, ex3_3, hf⟩ := zl_some hf
  refine z_istore_n' (lv' := [(3, .int x3_3), (0, .ref x0), (1, .int x1), (2, .int x2)]) rfl dX12_swaps_6 (by decide) ex3_3 rfl ?_
  refine z_aload_n dX12_swaps_7 rfl rfl ?_
  obtain ⟨a_4, ra_4, hf⟩ := z_rd_some hf
  refine zgR fl_X12_7 h0 (fun _ => rfl) ra_4 dX12_swaps_8 (fun ha_4 => ?_)
  refine z_iload_n dX12_swaps_11 rfl rfl ?_
  refine z_aload_n dX12_swaps_12 rfl rfl ?_
  obtain ⟨a_5, ra_5, hf⟩ := z_rd_some hf
  refine zgR fl_X12_7 h0 (fun _ => rfl) ra_5 dX12_swaps_13 (fun ha_5 => ?_)
  refine z_iload_n dX12_swaps_16 rfl rfl ?_
  obtain ⟨g_6, hf⟩ := z_ifs hf
  refine z_iald ha_5 g_6 rfl dX12_swaps_17 ?_
  obtain ⟨g_7, hf⟩ := z_ifs hf
  obtain ⟨M_8, eM_8, hf⟩ := zl_some hf
  refine z_iast ha_4 g_7 eM_8 dX12_swaps_18 ?_
  refine z_aload_n dX12_swaps_19 rfl rfl ?_
  obtain ⟨a_9, ra_9, hf⟩ := z_rd_some hf
  refine zgR fl_X12_7 h0 (fun _ => rfl) ra_9 dX12_swaps_20 (fun ha_9 => ?_)
  refine z_iload_n dX12_swaps_23 rfl rfl ?_
  refine z_iload_n dX12_swaps_24 rfl rfl ?_
  obtain ⟨g_10, hf⟩ := z_ifs hf
  obtain ⟨M_11, eM_11, hf⟩ := zl_some hf
  refine z_iast ha_9 g_10 eM_11 dX12_swaps_25 ?_
  obtain ⟨rfl, rfl⟩ := z_end hf
  exact z_vret ⟨rfl, rfl, rfl⟩ rfl dX12_swaps_26
noncomputable def f_X12_changes_24 (x0 : Nat) (x1 : Int32) (x2 : Int32) : Nat → Int32 → zM → Option (Unit × zM)
  | 0, _, _ => none
  | n + 1, x3, M =>
    (if 24 ≤ x3 then some ((), M) else z_call (f_X12_felt x1 x3 M) fun v_2 M_3 => z_call (f_X12_felt x2 x3 M_3) fun v_5 M_6 => z_call (f_X12_swaps x0 v_2 v_5 M_6) fun v_8 M_9 => zl (x3 + 1) fun x3_11 => (f_X12_changes_24 x0 x1 x2 n x3_11 M_9))
set_option maxHeartbeats 2000000 in
set_option maxRecDepth 20000 in
theorem t_X12_changes_24 {l : Launch} {x0 : Nat} {x1 : Int32} {x2 : Int32} {MO : zM} {v : Unit} (h0 : z_tm SH 11 x0) : ∀ (n : Nat) (x3 : Int32) (M : zM), f_X12_changes_24 x0 x1 x2 n x3 M = some (v, MO) → zA l yX12_changes cX12_changes 4 none 2 0 0 SH.length (zDv SH MO) 0 0 24 [(0, .ref x0), (1, .int x1), (2, .int x2), (3, .int x3)] [] SH M := by
  intro n
  induction n with
  | zero =>
    intro x3 M hf
    rw [f_X12_changes_24] at hf
    cases hf
  | succ n ih =>
    intro x3 M hf
    rw [f_X12_changes_24] at hf
    refine z_iload_n dX12_changes_24 rfl rfl ?_
    refine z_bipush (v := 24) dX12_changes_25 (by decide) ?_
    refine z_icmp_ge (tgt := 50) dX12_changes_27 (by decide) (fun q_1 => ?_) (fun q_1 => ?_)
    · have hf := (if_pos q_1).symm.trans hf
      obtain ⟨rfl, rfl⟩ := z_end hf
      exact z_vret ⟨rfl, rfl, rfl⟩ rfl dX12_changes_50
    · have hf := (if_neg q_1).symm.trans hf
      refine z_aload_n dX12_changes_30 rfl rfl ?_
      refine z_iload_n dX12_changes_31 rfl rfl ?_
      refine z_iload_n dX12_changes_32 rfl rfl ?_
      obtain ⟨v_2, M_3, c_4, hf⟩ := z_call_some hf
      refine z_cSi (t_X12_felt  c_4) kw_X12_felt lk_X12_94 rfl (by decide) rfl (Nat.le_of_ble_eq_true rfl) ⟨Nat.le_refl 0, Nat.le_refl 0⟩ dX12_changes_33 ?_
      refine z_iload_n dX12_changes_36 rfl rfl ?_
      refine z_iload_n dX12_changes_37 rfl rfl ?_
      obtain ⟨v_5, M_6, c_7, hf⟩ := z_call_some hf
      refine z_cSi (t_X12_felt  c_7) kw_X12_felt lk_X12_94 rfl (by decide) rfl (Nat.le_of_ble_eq_true rfl) ⟨Nat.le_refl 0, Nat.le_refl 0⟩ dX12_changes_38 ?_
      obtain ⟨v_8, M_9, c_10, hf⟩ := z_call_some hf
      refine z_cVv (t_X12_swaps h0 c_10) kw_X12_swaps lk_X12_233 h0 rfl (by decide) rfl (Nat.le_of_ble_eq_true rfl) ⟨Nat.le_refl 0, Nat.le_refl 0⟩ dX12_changes_41 ?_
      obtain ⟨x3_11, ex3_11, hf⟩ := zl_some hf
      refine z_iinc' (lv' := [(3, .int x3_11), (0, .ref x0), (1, .int x1), (2, .int x2)]) dX12_changes_44 rfl (by decide) ex3_11 (by decide) rfl ?_
      refine z_goto (tgt := 24) dX12_changes_47 (by decide) ?_
      refine zA.pick [(0, .ref x0), (1, .int x1), (2, .int x2), (3, .int x3_11)] [1, 2, 3, 0] rfl ?_
      exact ih x3_11 M_9 hf
noncomputable def f_X12_changes (x0 : Nat) (x1 : Int32) (x2 : Int32) (M : zM) : Option (Unit × zM) :=
  z_call (f_X12_swaps x0 (0 + x1) (0 + x2) M) fun v_1 M_2 => z_call (f_X12_swaps x0 (24 + x1) (24 + x2) M_2) fun v_4 M_5 => (f_X12_changes_24 x0 x1 x2 zF 0 M_5)
set_option maxHeartbeats 2000000 in
set_option maxRecDepth 20000 in
theorem t_X12_changes {l : Launch} {x0 : Nat} {x1 : Int32} {x2 : Int32} {M MO : zM} {v : Unit} (h0 : z_tm SH 11 x0) (hf : f_X12_changes x0 x1 x2 M = some (v, MO)) : zMet l yX12_changes cX12_changes 4 none 2 0 0 [.ref x0, .int x1, .int x2] SH M (zDv SH MO) := by
  refine zMet.of (by decide +kernel) (Nat.le_of_ble_eq_true rfl) (Or.inl rfl) ?_
  show zA l yX12_changes cX12_changes 4 none 2 0 0 SH.length (zDv SH MO) 0 0 0 [(0, .ref x0), (1, .int x1), (2, .int x2)] [] SH M
  unfold f_X12_changes at hf
  refine z_aload_n dX12_changes_0 rfl rfl ?_
  refine z_iconst (v := 0) dX12_changes_1 (by decide) ?_
  refine z_iload_n dX12_changes_2 rfl rfl ?_
  refine z_iadd dX12_changes_3 ?_
  refine z_iconst (v := 0) dX12_changes_4 (by decide) ?_
  refine z_iload_n dX12_changes_5 rfl rfl ?_
  refine z_iadd dX12_changes_6 ?_
  obtain ⟨v_1, M_2, c_3, hf⟩ := z_call_some hf
  refine z_cVv (t_X12_swaps h0 c_3) kw_X12_swaps lk_X12_233 h0 rfl (by decide) rfl (Nat.le_of_ble_eq_true rfl) ⟨Nat.le_refl 0, Nat.le_refl 0⟩ dX12_changes_7 ?_
  refine z_aload_n dX12_changes_10 rfl rfl ?_
  refine z_bipush (v := 24) dX12_changes_11 (by decide) ?_
  refine z_iload_n dX12_changes_13 rfl rfl ?_
  refine z_iadd dX12_changes_14 ?_
  refine z_bipush (v := 24) dX12_changes_15 (by decide) ?_
  refine z_iload_n dX12_changes_17 rfl rfl ?_
  refine z_iadd dX12_changes_18 ?_
  obtain ⟨v_4, M_5, c_6, hf⟩ := z_call_some hf
  refine z_cVv (t_X12_swaps h0 c_6) kw_X12_swaps lk_X12_233 h0 rfl (by decide) rfl (Nat.le_of_ble_eq_true rfl) ⟨Nat.le_refl 0, Nat.le_refl 0⟩ dX12_changes_19 ?_
  refine z_iconst (v := 0) dX12_changes_22 (by decide) ?_
  refine z_istore_n' (lv' := [(3, .int 0), (0, .ref x0), (1, .int x1), (2, .int x2)]) rfl dX12_changes_23 (by decide) rfl rfl ?_
  refine zA.pick [(0, .ref x0), (1, .int x1), (2, .int x2), (3, .int 0)] [1, 2, 3, 0] rfl ?_
  exact t_X12_changes_24 h0 zF 0 M_5 hf
noncomputable def f_X12_readsMove (x0 : Nat) (x1 : Int32) (M : zM) : Option (Int32 × zM) :=
  zl (((M.1 x0 5) - 1)) fun x2_1 => z_call (f_X12_readsRoom x0 M) fun v_2 M_3 => (if v_2 = 0 then some (0, M_3) else z_rd (M_3.2.1 x0 0) fun a_6 => if z_ix (0 + x1) (z_ln SH a_6) = true then z_rd (M_3.2.1 x0 0) fun a_8 => if z_ix (0 + (M_3.1 x0 8)) (z_ln SH a_8) = true then (if ((M_3.1 a_6 ((0 + x1) : Int32).toNatClampNeg) + (M_3.1 a_8 ((0 + (M_3.1 x0 8)) : Int32).toNatClampNeg)) = 0 then z_call (f_X12_wrongAt x0 7 x2_1 M_3) fun v_14 M_15 => if ((v_14 : Int32) = 0 ∨ (v_14 : Int32) = 1) then some (v_14, M_15) else none else z_call (f_X12_changes x0 x1 (M_3.1 x0 8) M_3) fun v_11 M_12 => some (1, M_12)) else none else none)
set_option maxHeartbeats 2000000 in
set_option maxRecDepth 20000 in
theorem t_X12_readsMove {l : Launch} {x0 : Nat} {x1 : Int32} {M MO : zM} {v : Int32} (h0 : z_tm SH 11 x0) (hf : f_X12_readsMove x0 x1 M = some (v, MO)) : zMet l yX12_readsMove cX12_readsMove 3 (some .boolean) 5 0 0 [.ref x0, .int x1] SH M (zDi SH v MO) := by
  refine zMet.of (by decide +kernel) (Nat.le_of_ble_eq_true rfl) (Or.inr (Or.inr (Or.inl rfl))) ?_
  show zA l yX12_readsMove cX12_readsMove 3 (some .boolean) 5 0 0 SH.length (zDi SH v MO) 0 0 0 [(0, .ref x0), (1, .int x1)] [] SH M
  unfold f_X12_readsMove at hf
  refine z_aload_n dX12_readsMove_0 rfl rfl ?_
  refine zgI fl_X12_123 h0 (fun _ => rfl) dX12_readsMove_1 ?_
  refine z_iconst (v := 1) dX12_readsMove_4 (by decide) ?_
  refine z_isub dX12_readsMove_5 ?_
  obtain ⟨x2_1, ex2_1, hf⟩ := zl_some hf
  refine z_istore_n' (lv' := [(2, .int x2_1), (0, .ref x0), (1, .int x1)]) rfl dX12_readsMove_6 (by decide) ex2_1 rfl ?_
  refine z_aload_n dX12_readsMove_7 rfl rfl ?_
  obtain ⟨v_2, M_3, c_4, hf⟩ := z_call_some hf
  refine z_cVi (t_X12_readsRoom h0 c_4) kw_X12_readsRoom lk_X12_236 h0 rfl (by decide) rfl (Nat.le_of_ble_eq_true rfl) ⟨Nat.le_refl 0, Nat.le_refl 0⟩ dX12_readsMove_8 ?_
  refine z_if_ne (tgt := 16) dX12_readsMove_11 (by decide) (fun q_5 => ?_) (fun q_5 => ?_)
  · have hf := (if_neg q_5).symm.trans hf
    refine z_aload_n dX12_readsMove_16 rfl rfl ?_
    obtain ⟨a_6, ra_6, hf⟩ := z_rd_some hf
    refine zgR fl_X12_7 h0 (fun _ => rfl) ra_6 dX12_readsMove_17 (fun ha_6 => ?_)
    refine z_iconst (v := 0) dX12_readsMove_20 (by decide) ?_
    refine z_iload_n dX12_readsMove_21 rfl rfl ?_
    refine z_iadd dX12_readsMove_22 ?_
    obtain ⟨g_7, hf⟩ := z_ifs hf
    refine z_iald ha_6 g_7 rfl dX12_readsMove_23 ?_
    refine z_aload_n dX12_readsMove_24 rfl rfl ?_
    obtain ⟨a_8, ra_8, hf⟩ := z_rd_some hf
    refine zgR fl_X12_7 h0 (fun _ => rfl) ra_8 dX12_readsMove_25 (fun ha_8 => ?_)
    refine z_iconst (v := 0) dX12_readsMove_28 (by decide) ?_
    refine z_aload_n dX12_readsMove_29 rfl rfl ?_
    refine zgI fl_X12_140 h0 (fun _ => rfl) dX12_readsMove_30 ?_
    refine z_iadd dX12_readsMove_33 ?_
    obtain ⟨g_9, hf⟩ := z_ifs hf
    refine z_iald ha_8 g_9 rfl dX12_readsMove_34 ?_
    refine z_iadd dX12_readsMove_35 ?_
    refine z_if_ne (tgt := 47) dX12_readsMove_36 (by decide) (fun q_10 => ?_) (fun q_10 => ?_)
    · have hf := (if_neg q_10).symm.trans hf
      refine z_aload_n dX12_readsMove_47 rfl rfl ?_
      refine z_iload_n dX12_readsMove_48 rfl rfl ?_
      refine z_aload_n dX12_readsMove_49 rfl rfl ?_
      refine zgI fl_X12_140 h0 (fun _ => rfl) dX12_readsMove_50 ?_
      obtain ⟨v_11, M_12, c_13, hf⟩ := z_call_some hf
      refine z_cVv (t_X12_changes h0 c_13) kw_X12_changes lk_X12_239 h0 rfl (by decide) rfl (Nat.le_of_ble_eq_true rfl) ⟨Nat.le_refl 0, Nat.le_refl 0⟩ dX12_readsMove_53 ?_
      refine z_iconst (v := 1) dX12_readsMove_56 (by decide) ?_
      obtain ⟨rfl, rfl⟩ := z_end hf
      exact z_iret ⟨rfl, rfl, rfl⟩ (Or.inr ⟨rfl, (Or.inr rfl)⟩) dX12_readsMove_57
    · have hf := (if_pos q_10).symm.trans hf
      refine z_aload_n dX12_readsMove_39 rfl rfl ?_
      refine z_bipush (v := 7) dX12_readsMove_40 (by decide) ?_
      refine z_iload_n dX12_readsMove_42 rfl rfl ?_
      obtain ⟨v_14, M_15, c_16, hf⟩ := z_call_some hf
      refine z_cVi (t_X12_wrongAt h0 c_16) kw_X12_wrongAt lk_X12_136 h0 rfl (by decide) rfl (Nat.le_of_ble_eq_true rfl) ⟨Nat.le_refl 0, Nat.le_refl 0⟩ dX12_readsMove_43 ?_
      obtain ⟨g_17, hf⟩ := z_ifs hf
      obtain ⟨rfl, rfl⟩ := z_end hf
      exact z_iret ⟨rfl, rfl, rfl⟩ (Or.inr ⟨rfl, g_17⟩) dX12_readsMove_46
  · have hf := (if_pos q_5).symm.trans hf
    refine z_iconst (v := 0) dX12_readsMove_14 (by decide) ?_
    obtain ⟨rfl, rfl⟩ := z_end hf
    exact z_iret ⟨rfl, rfl, rfl⟩ (Or.inr ⟨rfl, (Or.inl rfl)⟩) dX12_readsMove_15
noncomputable def f_X12_readsLine_93 (x0 : Nat) (x1 : Int32) (x2 : Int32) (M : zM) : Option (Int32 × zM) :=
  zl (zu M.1 x0 5 ((M.1 x0 5) + 1), M.2) fun M_1 => (if x2 = 33 then z_call (f_X12_laysGuest x0 x1 0 0 M_1) fun v_3 M_4 => some (1, M_4) else if x2 = 60 then z_rd (M_1.2.1 x0 0) fun a_7 => if z_ix (72 + x1) (z_ln SH a_7) = true then zl (zu M_1.1 a_7 ((72 + x1) : Int32).toNatClampNeg 0, M_1.2) fun M_9 => some (1, M_9) else none else if x2 = 61 then z_call (f_X12_readsAmount x0 4 M_1) fun v_11 M_12 => (if v_11 = 0 then some (0, M_12) else z_call (f_X12_laysGuest x0 x1 1 (M_12.1 x0 8) M_12) fun v_15 M_16 => some (1, M_16)) else if x2 = 62 then z_rd (M_1.2.1 x0 0) fun a_19 => if z_ix (72 + x1) (z_ln SH a_19) = true then zl (zu M_1.1 a_19 ((72 + x1) : Int32).toNatClampNeg 2, M_1.2) fun M_21 => some (1, M_21) else none else if x2 = 64 then z_call (f_X12_readsMove x0 x1 M_1) fun v_23 M_24 => if ((v_23 : Int32) = 0 ∨ (v_23 : Int32) = 1) then some (v_23, M_24) else none else if x2 = 111 then z_rd (M_1.2.1 x0 0) fun a_28 => if z_ix (48 + x1) (z_ln SH a_28) = true then zl (zu M_1.1 a_28 ((48 + x1) : Int32).toNatClampNeg 1, M_1.2) fun M_30 => some (1, M_30) else none else if x2 = 115 then z_rd (M_1.2.1 x0 0) fun a_32 => if z_ix (48 + x1) (z_ln SH a_32) = true then zl (zu M_1.1 a_32 ((48 + x1) : Int32).toNatClampNeg 0, M_1.2) fun M_34 => some (1, M_34) else none else if x2 = 124 then z_rd (M_1.2.1 x0 0) fun a_36 => if z_ix (72 + x1) (z_ln SH a_36) = true then zl (zu M_1.1 a_36 ((72 + x1) : Int32).toNatClampNeg 1, M_1.2) fun M_38 => some (1, M_38) else none else z_call (f_X12_wrongAt x0 1 ((M_1.1 x0 5) - 1) M_1) fun v_39 M_40 => if ((v_39 : Int32) = 0 ∨ (v_39 : Int32) = 1) then some (v_39, M_40) else none)
set_option maxHeartbeats 2000000 in
set_option maxRecDepth 20000 in
theorem t_X12_readsLine_93 {l : Launch} {x0 : Nat} {x1 : Int32} {x2 : Int32} {M MO : zM} {v : Int32} (h0 : z_tm SH 11 x0) (hf : f_X12_readsLine_93 x0 x1 x2 M = some (v, MO)) : zA l yX12_readsLine cX12_readsLine 3 (some .boolean) 6 0 0 SH.length (zDi SH v MO) 0 0 93 [(0, .ref x0), (1, .int x1), (2, .int x2)] [] SH M := by
  unfold f_X12_readsLine_93 at hf
  refine z_aload_n dX12_readsLine_93 rfl rfl ?_
  refine z_aload_n dX12_readsLine_94 rfl rfl ?_
  refine zgI fl_X12_123 h0 (fun _ => rfl) dX12_readsLine_95 ?_
  refine z_iconst (v := 1) dX12_readsLine_98 (by decide) ?_
  refine z_iadd dX12_readsLine_99 ?_
  obtain ⟨M_1, eM_1, hf⟩ := zl_some hf
  refine zpI fl_X12_123 h0 rfl (Or.inl rfl) eM_1 dX12_readsLine_100 ?_
  refine z_iload_n dX12_readsLine_103 rfl rfl ?_
  by_cases q_2 : x2 = 33
  · have hf := (if_pos q_2).symm.trans hf
    refine z_look (tgt := 202) (off := 98) dX12_readsLine_104 (by decide) (by rw [q_2]; first | rfl | decide) (by decide) ?_
    refine z_aload_n dX12_readsLine_202 rfl rfl ?_
    refine z_iload_n dX12_readsLine_203 rfl rfl ?_
    refine z_iconst (v := 0) dX12_readsLine_204 (by decide) ?_
    refine z_iconst (v := 0) dX12_readsLine_205 (by decide) ?_
    obtain ⟨v_3, M_4, c_5, hf⟩ := z_call_some hf
    refine z_cVv (t_X12_laysGuest h0 c_5) kw_X12_laysGuest lk_X12_111 h0 rfl (by decide) rfl (Nat.le_of_ble_eq_true rfl) ⟨Nat.le_refl 0, Nat.le_refl 0⟩ dX12_readsLine_206 ?_
    refine z_iconst (v := 1) dX12_readsLine_209 (by decide) ?_
    obtain ⟨rfl, rfl⟩ := z_end hf
    exact z_iret ⟨rfl, rfl, rfl⟩ (Or.inr ⟨rfl, (Or.inr rfl)⟩) dX12_readsLine_210
  have hf := (if_neg q_2).symm.trans hf
  by_cases q_6 : x2 = 60
  · have hf := (if_pos q_6).symm.trans hf
    refine z_look (tgt := 235) (off := 131) dX12_readsLine_104 (by decide) (by rw [q_6]; first | rfl | decide) (by decide) ?_
    refine z_aload_n dX12_readsLine_235 rfl rfl ?_
    obtain ⟨a_7, ra_7, hf⟩ := z_rd_some hf
    refine zgR fl_X12_7 h0 (fun _ => rfl) ra_7 dX12_readsLine_236 (fun ha_7 => ?_)
    refine z_bipush (v := 72) dX12_readsLine_239 (by decide) ?_
    refine z_iload_n dX12_readsLine_241 rfl rfl ?_
    refine z_iadd dX12_readsLine_242 ?_
    refine z_iconst (v := 0) dX12_readsLine_243 (by decide) ?_
    obtain ⟨g_8, hf⟩ := z_ifs hf
    obtain ⟨M_9, eM_9, hf⟩ := zl_some hf
    refine z_iast ha_7 g_8 eM_9 dX12_readsLine_244 ?_
    refine z_iconst (v := 1) dX12_readsLine_245 (by decide) ?_
    obtain ⟨rfl, rfl⟩ := z_end hf
    exact z_iret ⟨rfl, rfl, rfl⟩ (Or.inr ⟨rfl, (Or.inr rfl)⟩) dX12_readsLine_246
  have hf := (if_neg q_6).symm.trans hf
  by_cases q_10 : x2 = 61
  · have hf := (if_pos q_10).symm.trans hf
    refine z_look (tgt := 180) (off := 76) dX12_readsLine_104 (by decide) (by rw [q_10]; first | rfl | decide) (by decide) ?_
    refine z_aload_n dX12_readsLine_180 rfl rfl ?_
    refine z_iconst (v := 4) dX12_readsLine_181 (by decide) ?_
    obtain ⟨v_11, M_12, c_13, hf⟩ := z_call_some hf
    refine z_cVi (t_X12_readsAmount h0 c_13) kw_X12_readsAmount lk_X12_230 h0 rfl (by decide) rfl (Nat.le_of_ble_eq_true rfl) ⟨Nat.le_refl 0, Nat.le_refl 0⟩ dX12_readsLine_182 ?_
    refine z_if_ne (tgt := 190) dX12_readsLine_185 (by decide) (fun q_14 => ?_) (fun q_14 => ?_)
    · have hf := (if_neg q_14).symm.trans hf
      refine z_aload_n dX12_readsLine_190 rfl rfl ?_
      refine z_iload_n dX12_readsLine_191 rfl rfl ?_
      refine z_iconst (v := 1) dX12_readsLine_192 (by decide) ?_
      refine z_aload_n dX12_readsLine_193 rfl rfl ?_
      refine zgI fl_X12_140 h0 (fun _ => rfl) dX12_readsLine_194 ?_
      obtain ⟨v_15, M_16, c_17, hf⟩ := z_call_some hf
      refine z_cVv (t_X12_laysGuest h0 c_17) kw_X12_laysGuest lk_X12_111 h0 rfl (by decide) rfl (Nat.le_of_ble_eq_true rfl) ⟨Nat.le_refl 0, Nat.le_refl 0⟩ dX12_readsLine_197 ?_
      refine z_iconst (v := 1) dX12_readsLine_200 (by decide) ?_
      obtain ⟨rfl, rfl⟩ := z_end hf
      exact z_iret ⟨rfl, rfl, rfl⟩ (Or.inr ⟨rfl, (Or.inr rfl)⟩) dX12_readsLine_201
    · have hf := (if_pos q_14).symm.trans hf
      refine z_iconst (v := 0) dX12_readsLine_188 (by decide) ?_
      obtain ⟨rfl, rfl⟩ := z_end hf
      exact z_iret ⟨rfl, rfl, rfl⟩ (Or.inr ⟨rfl, (Or.inl rfl)⟩) dX12_readsLine_189
  have hf := (if_neg q_10).symm.trans hf
  by_cases q_18 : x2 = 62
  · have hf := (if_pos q_18).symm.trans hf
    refine z_look (tgt := 259) (off := 155) dX12_readsLine_104 (by decide) (by rw [q_18]; first | rfl | decide) (by decide) ?_
    refine z_aload_n dX12_readsLine_259 rfl rfl ?_
    obtain ⟨a_19, ra_19, hf⟩ := z_rd_some hf
    refine zgR fl_X12_7 h0 (fun _ => rfl) ra_19 dX12_readsLine_260 (fun ha_19 => ?_)
    refine z_bipush (v := 72) dX12_readsLine_263 (by decide) ?_
    refine z_iload_n dX12_readsLine_265 rfl rfl ?_
    refine z_iadd dX12_readsLine_266 ?_
    refine z_iconst (v := 2) dX12_readsLine_267 (by decide) ?_
    obtain ⟨g_20, hf⟩ := z_ifs hf
    obtain ⟨M_21, eM_21, hf⟩ := zl_some hf
    refine z_iast ha_19 g_20 eM_21 dX12_readsLine_268 ?_
    refine z_iconst (v := 1) dX12_readsLine_269 (by decide) ?_
    obtain ⟨rfl, rfl⟩ := z_end hf
    exact z_iret ⟨rfl, rfl, rfl⟩ (Or.inr ⟨rfl, (Or.inr rfl)⟩) dX12_readsLine_270
  have hf := (if_neg q_18).symm.trans hf
  by_cases q_22 : x2 = 64
  · have hf := (if_pos q_22).symm.trans hf
    refine z_look (tgt := 271) (off := 167) dX12_readsLine_104 (by decide) (by rw [q_22]; first | rfl | decide) (by decide) ?_
    refine z_aload_n dX12_readsLine_271 rfl rfl ?_
    refine z_iload_n dX12_readsLine_272 rfl rfl ?_
    obtain ⟨v_23, M_24, c_25, hf⟩ := z_call_some hf
    refine z_cVi (t_X12_readsMove h0 c_25) kw_X12_readsMove lk_X12_245 h0 rfl (by decide) rfl (Nat.le_of_ble_eq_true rfl) ⟨Nat.le_refl 0, Nat.le_refl 0⟩ dX12_readsLine_273 ?_
    obtain ⟨g_26, hf⟩ := z_ifs hf
    obtain ⟨rfl, rfl⟩ := z_end hf
    exact z_iret ⟨rfl, rfl, rfl⟩ (Or.inr ⟨rfl, g_26⟩) dX12_readsLine_276
  have hf := (if_neg q_22).symm.trans hf
  by_cases q_27 : x2 = 111
  · have hf := (if_pos q_27).symm.trans hf
    refine z_look (tgt := 211) (off := 107) dX12_readsLine_104 (by decide) (by rw [q_27]; first | rfl | decide) (by decide) ?_
    refine z_aload_n dX12_readsLine_211 rfl rfl ?_
    obtain ⟨a_28, ra_28, hf⟩ := z_rd_some hf
    refine zgR fl_X12_7 h0 (fun _ => rfl) ra_28 dX12_readsLine_212 (fun ha_28 => ?_)
    refine z_bipush (v := 48) dX12_readsLine_215 (by decide) ?_
    refine z_iload_n dX12_readsLine_217 rfl rfl ?_
    refine z_iadd dX12_readsLine_218 ?_
    refine z_iconst (v := 1) dX12_readsLine_219 (by decide) ?_
    obtain ⟨g_29, hf⟩ := z_ifs hf
    obtain ⟨M_30, eM_30, hf⟩ := zl_some hf
    refine z_iast ha_28 g_29 eM_30 dX12_readsLine_220 ?_
    refine z_iconst (v := 1) dX12_readsLine_221 (by decide) ?_
    obtain ⟨rfl, rfl⟩ := z_end hf
    exact z_iret ⟨rfl, rfl, rfl⟩ (Or.inr ⟨rfl, (Or.inr rfl)⟩) dX12_readsLine_222
  have hf := (if_neg q_27).symm.trans hf
  by_cases q_31 : x2 = 115
  · have hf := (if_pos q_31).symm.trans hf
    refine z_look (tgt := 223) (off := 119) dX12_readsLine_104 (by decide) (by rw [q_31]; first | rfl | decide) (by decide) ?_
    refine z_aload_n dX12_readsLine_223 rfl rfl ?_
    obtain ⟨a_32, ra_32, hf⟩ := z_rd_some hf
    refine zgR fl_X12_7 h0 (fun _ => rfl) ra_32 dX12_readsLine_224 (fun ha_32 => ?_)
    refine z_bipush (v := 48) dX12_readsLine_227 (by decide) ?_
    refine z_iload_n dX12_readsLine_229 rfl rfl ?_
    refine z_iadd dX12_readsLine_230 ?_
    refine z_iconst (v := 0) dX12_readsLine_231 (by decide) ?_
    obtain ⟨g_33, hf⟩ := z_ifs hf
    obtain ⟨M_34, eM_34, hf⟩ := zl_some hf
    refine z_iast ha_32 g_33 eM_34 dX12_readsLine_232 ?_
    refine z_iconst (v := 1) dX12_readsLine_233 (by decide) ?_
    obtain ⟨rfl, rfl⟩ := z_end hf
    exact z_iret ⟨rfl, rfl, rfl⟩ (Or.inr ⟨rfl, (Or.inr rfl)⟩) dX12_readsLine_234
  have hf := (if_neg q_31).symm.trans hf
  by_cases q_35 : x2 = 124
  · have hf := (if_pos q_35).symm.trans hf
    refine z_look (tgt := 247) (off := 143) dX12_readsLine_104 (by decide) (by rw [q_35]; first | rfl | decide) (by decide) ?_
    refine z_aload_n dX12_readsLine_247 rfl rfl ?_
    obtain ⟨a_36, ra_36, hf⟩ := z_rd_some hf
    refine zgR fl_X12_7 h0 (fun _ => rfl) ra_36 dX12_readsLine_248 (fun ha_36 => ?_)
    refine z_bipush (v := 72) dX12_readsLine_251 (by decide) ?_
    refine z_iload_n dX12_readsLine_253 rfl rfl ?_
    refine z_iadd dX12_readsLine_254 ?_
    refine z_iconst (v := 1) dX12_readsLine_255 (by decide) ?_
    obtain ⟨g_37, hf⟩ := z_ifs hf
    obtain ⟨M_38, eM_38, hf⟩ := zl_some hf
    refine z_iast ha_36 g_37 eM_38 dX12_readsLine_256 ?_
    refine z_iconst (v := 1) dX12_readsLine_257 (by decide) ?_
    obtain ⟨rfl, rfl⟩ := z_end hf
    exact z_iret ⟨rfl, rfl, rfl⟩ (Or.inr ⟨rfl, (Or.inr rfl)⟩) dX12_readsLine_258
  have hf := (if_neg q_35).symm.trans hf
  refine z_look (tgt := 277) (off := 173) dX12_readsLine_104 (by decide) (by rw [lv_osw q_2 (by decide)]; rw [lv_osw q_6 (by decide)]; rw [lv_osw q_10 (by decide)]; rw [lv_osw q_18 (by decide)]; rw [lv_osw q_22 (by decide)]; rw [lv_osw q_27 (by decide)]; rw [lv_osw q_31 (by decide)]; rw [lv_osw q_35 (by decide)]; rfl) (by decide) ?_
  refine z_aload_n dX12_readsLine_277 rfl rfl ?_
  refine z_iconst (v := 1) dX12_readsLine_278 (by decide) ?_
  refine z_aload_n dX12_readsLine_279 rfl rfl ?_
  refine zgI fl_X12_123 h0 (fun _ => rfl) dX12_readsLine_280 ?_
  refine z_iconst (v := 1) dX12_readsLine_283 (by decide) ?_
  refine z_isub dX12_readsLine_284 ?_
  obtain ⟨v_39, M_40, c_41, hf⟩ := z_call_some hf
  refine z_cVi (t_X12_wrongAt h0 c_41) kw_X12_wrongAt lk_X12_136 h0 rfl (by decide) rfl (Nat.le_of_ble_eq_true rfl) ⟨Nat.le_refl 0, Nat.le_refl 0⟩ dX12_readsLine_285 ?_
  obtain ⟨g_42, hf⟩ := z_ifs hf
  obtain ⟨rfl, rfl⟩ := z_end hf
  exact z_iret ⟨rfl, rfl, rfl⟩ (Or.inr ⟨rfl, g_42⟩) dX12_readsLine_288
noncomputable def f_X12_readsLine (x0 : Nat) (M : zM) : Option (Int32 × zM) :=
  z_call (f_X12_isDigit x0 M) fun v_1 M_2 => (if v_1 = 0 then z_call (f_X12_wrongAt x0 1 (M_2.1 x0 5) M_2) fun v_27 M_28 => if ((v_27 : Int32) = 0 ∨ (v_27 : Int32) = 1) then some (v_27, M_28) else none else (if (M_2.1 x0 27) = 20 then z_call (f_X12_wrongAt x0 4 (M_2.1 x0 5) M_2) fun v_23 M_24 => if ((v_23 : Int32) = 0 ∨ (v_23 : Int32) = 1) then some (v_23, M_24) else none else zl (zu M_2.1 x0 27 ((M_2.1 x0 27) + 1), M_2.2) fun M_6 => z_call (f_X12_readsRoom x0 M_6) fun v_7 M_8 => (if v_7 = 0 then some (0, M_8) else zl ((M_8.1 x0 8)) fun x1_11 => z_call (f_X12_here x0 M_8) fun v_12 M_13 => (if v_12 = 33 then z_rd (M_13.2.1 x0 0) fun a_16 => if z_ix (0 + x1_11) (z_ln SH a_16) = true then (if (M_13.1 a_16 ((0 + x1_11) : Int32).toNatClampNeg) = 0 then z_call (f_X12_wrongAt x0 7 (M_13.1 x0 5) M_13) fun v_19 M_20 => if ((v_19 : Int32) = 0 ∨ (v_19 : Int32) = 1) then some (v_19, M_20) else none else (f_X12_readsLine_93 x0 x1_11 v_12 M_13)) else none else (f_X12_readsLine_93 x0 x1_11 v_12 M_13)))))
set_option maxHeartbeats 2000000 in
set_option maxRecDepth 20000 in
theorem t_X12_readsLine {l : Launch} {x0 : Nat} {M MO : zM} {v : Int32} (h0 : z_tm SH 11 x0) (hf : f_X12_readsLine x0 M = some (v, MO)) : zMet l yX12_readsLine cX12_readsLine 3 (some .boolean) 6 0 0 [.ref x0] SH M (zDi SH v MO) := by
  refine zMet.of (by decide +kernel) (Nat.le_of_ble_eq_true rfl) (Or.inr (Or.inr (Or.inl rfl))) ?_
  show zA l yX12_readsLine cX12_readsLine 3 (some .boolean) 6 0 0 SH.length (zDi SH v MO) 0 0 0 [(0, .ref x0)] [] SH M
  unfold f_X12_readsLine at hf
  refine z_aload_n dX12_readsLine_0 rfl rfl ?_
  obtain ⟨v_1, M_2, c_3, hf⟩ := z_call_some hf
  refine z_cVi (t_X12_isDigit h0 c_3) kw_X12_isDigit lk_X12_143 h0 rfl (by decide) rfl (Nat.le_of_ble_eq_true rfl) ⟨Nat.le_refl 0, Nat.le_refl 0⟩ dX12_readsLine_1 ?_
  refine z_if_ne (tgt := 17) dX12_readsLine_4 (by decide) (fun q_4 => ?_) (fun q_4 => ?_)
  · have hf := (if_neg q_4).symm.trans hf
    refine z_aload_n dX12_readsLine_17 rfl rfl ?_
    refine zgI fl_X12_242 h0 (fun _ => rfl) dX12_readsLine_18 ?_
    refine z_bipush (v := 20) dX12_readsLine_21 (by decide) ?_
    refine z_icmp_ne (tgt := 36) dX12_readsLine_23 (by decide) (fun q_5 => ?_) (fun q_5 => ?_)
    · have hf := (if_neg q_5).symm.trans hf
      refine z_aload_n dX12_readsLine_36 rfl rfl ?_
      refine z_aload_n dX12_readsLine_37 rfl rfl ?_
      refine zgI fl_X12_242 h0 (fun _ => rfl) dX12_readsLine_38 ?_
      refine z_iconst (v := 1) dX12_readsLine_41 (by decide) ?_
      refine z_iadd dX12_readsLine_42 ?_
      obtain ⟨M_6, eM_6, hf⟩ := zl_some hf
      refine zpI fl_X12_242 h0 rfl (Or.inl rfl) eM_6 dX12_readsLine_43 ?_
      refine z_aload_n dX12_readsLine_46 rfl rfl ?_
      obtain ⟨v_7, M_8, c_9, hf⟩ := z_call_some hf
      refine z_cVi (t_X12_readsRoom h0 c_9) kw_X12_readsRoom lk_X12_236 h0 rfl (by decide) rfl (Nat.le_of_ble_eq_true rfl) ⟨Nat.le_refl 0, Nat.le_refl 0⟩ dX12_readsLine_47 ?_
      refine z_if_ne (tgt := 55) dX12_readsLine_50 (by decide) (fun q_10 => ?_) (fun q_10 => ?_)
      · have hf := (if_neg q_10).symm.trans hf
        refine z_aload_n dX12_readsLine_55 rfl rfl ?_
        refine zgI fl_X12_140 h0 (fun _ => rfl) dX12_readsLine_56 ?_
        obtain ⟨x1_11, ex1_11, hf⟩ := zl_some hf
        refine z_istore_n' (lv' := [(1, .int x1_11), (0, .ref x0)]) rfl dX12_readsLine_59 (by decide) ex1_11 rfl ?_
        refine z_aload_n dX12_readsLine_60 rfl rfl ?_
        obtain ⟨v_12, M_13, c_14, hf⟩ := z_call_some hf
        refine z_cVi (t_X12_here h0 c_14) kw_X12_here lk_X12_129 h0 rfl (by decide) rfl (Nat.le_of_ble_eq_true rfl) ⟨Nat.le_refl 0, Nat.le_refl 0⟩ dX12_readsLine_61 ?_
        refine z_istore_n' (lv' := [(2, .int v_12), (1, .int x1_11), (0, .ref x0)]) rfl dX12_readsLine_64 (by decide) rfl rfl ?_
        refine z_iload_n dX12_readsLine_65 rfl rfl ?_
        refine z_bipush (v := 33) dX12_readsLine_66 (by decide) ?_
        refine z_icmp_ne (tgt := 93) dX12_readsLine_68 (by decide) (fun q_15 => ?_) (fun q_15 => ?_)
        · have hf := (if_neg q_15).symm.trans hf
          refine zA.pick [(0, .ref x0), (1, .int x1_11), (2, .int v_12)] [2, 1, 0] rfl ?_
          exact t_X12_readsLine_93 h0 hf
        · have hf := (if_pos q_15).symm.trans hf
          refine z_aload_n dX12_readsLine_71 rfl rfl ?_
          obtain ⟨a_16, ra_16, hf⟩ := z_rd_some hf
          refine zgR fl_X12_7 h0 (fun _ => rfl) ra_16 dX12_readsLine_72 (fun ha_16 => ?_)
          refine z_iconst (v := 0) dX12_readsLine_75 (by decide) ?_
          refine z_iload_n dX12_readsLine_76 rfl rfl ?_
          refine z_iadd dX12_readsLine_77 ?_
          obtain ⟨g_17, hf⟩ := z_ifs hf
          refine z_iald ha_16 g_17 rfl dX12_readsLine_78 ?_
          refine z_if_ne (tgt := 93) dX12_readsLine_79 (by decide) (fun q_18 => ?_) (fun q_18 => ?_)
          · have hf := (if_neg q_18).symm.trans hf
            refine zA.pick [(0, .ref x0), (1, .int x1_11), (2, .int v_12)] [2, 1, 0] rfl ?_
            exact t_X12_readsLine_93 h0 hf
          · have hf := (if_pos q_18).symm.trans hf
            refine z_aload_n dX12_readsLine_82 rfl rfl ?_
            refine z_bipush (v := 7) dX12_readsLine_83 (by decide) ?_
            refine z_aload_n dX12_readsLine_85 rfl rfl ?_
            refine zgI fl_X12_123 h0 (fun _ => rfl) dX12_readsLine_86 ?_
            obtain ⟨v_19, M_20, c_21, hf⟩ := z_call_some hf
            refine z_cVi (t_X12_wrongAt h0 c_21) kw_X12_wrongAt lk_X12_136 h0 rfl (by decide) rfl (Nat.le_of_ble_eq_true rfl) ⟨Nat.le_refl 0, Nat.le_refl 0⟩ dX12_readsLine_89 ?_
            obtain ⟨g_22, hf⟩ := z_ifs hf
            obtain ⟨rfl, rfl⟩ := z_end hf
            exact z_iret ⟨rfl, rfl, rfl⟩ (Or.inr ⟨rfl, g_22⟩) dX12_readsLine_92
      · have hf := (if_pos q_10).symm.trans hf
        refine z_iconst (v := 0) dX12_readsLine_53 (by decide) ?_
        obtain ⟨rfl, rfl⟩ := z_end hf
        exact z_iret ⟨rfl, rfl, rfl⟩ (Or.inr ⟨rfl, (Or.inl rfl)⟩) dX12_readsLine_54
    · have hf := (if_pos q_5).symm.trans hf
      refine z_aload_n dX12_readsLine_26 rfl rfl ?_
      refine z_iconst (v := 4) dX12_readsLine_27 (by decide) ?_
      refine z_aload_n dX12_readsLine_28 rfl rfl ?_
      refine zgI fl_X12_123 h0 (fun _ => rfl) dX12_readsLine_29 ?_
      obtain ⟨v_23, M_24, c_25, hf⟩ := z_call_some hf
      refine z_cVi (t_X12_wrongAt h0 c_25) kw_X12_wrongAt lk_X12_136 h0 rfl (by decide) rfl (Nat.le_of_ble_eq_true rfl) ⟨Nat.le_refl 0, Nat.le_refl 0⟩ dX12_readsLine_32 ?_
      obtain ⟨g_26, hf⟩ := z_ifs hf
      obtain ⟨rfl, rfl⟩ := z_end hf
      exact z_iret ⟨rfl, rfl, rfl⟩ (Or.inr ⟨rfl, g_26⟩) dX12_readsLine_35
  · have hf := (if_pos q_4).symm.trans hf
    refine z_aload_n dX12_readsLine_7 rfl rfl ?_
    refine z_iconst (v := 1) dX12_readsLine_8 (by decide) ?_
    refine z_aload_n dX12_readsLine_9 rfl rfl ?_
    refine zgI fl_X12_123 h0 (fun _ => rfl) dX12_readsLine_10 ?_
    obtain ⟨v_27, M_28, c_29, hf⟩ := z_call_some hf
    refine z_cVi (t_X12_wrongAt h0 c_29) kw_X12_wrongAt lk_X12_136 h0 rfl (by decide) rfl (Nat.le_of_ble_eq_true rfl) ⟨Nat.le_refl 0, Nat.le_refl 0⟩ dX12_readsLine_13 ?_
    obtain ⟨g_30, hf⟩ := z_ifs hf
    obtain ⟨rfl, rfl⟩ := z_end hf
    exact z_iret ⟨rfl, rfl, rfl⟩ (Or.inr ⟨rfl, g_30⟩) dX12_readsLine_16
noncomputable def f_X12_register_86 (x0 : Nat) (x2 : Int32) (M : zM) : Option (Int32 × zM) :=
  zl (zu M.1 x0 4 0, M.2) fun M_1 => (if x2 = 0 then z_rd (M_1.2.1 x0 1) fun a_3 => z_rd (M_1.2.1 x0 0) fun a_4 => z_call (f_X12_copies a_3 a_4 M_1) fun v_5 M_6 => some ((M_6.1 x0 7), M_6) else some ((M_1.1 x0 27), M_1))
set_option maxHeartbeats 2000000 in
set_option maxRecDepth 20000 in
theorem t_X12_register_86 {l : Launch} {x0 : Nat} {x2 : Int32} {M MO : zM} {v : Int32} (h0 : z_tm SH 11 x0) (hf : f_X12_register_86 x0 x2 M = some (v, MO)) : zA l yX12_register cX12_register 3 (some .int) 7 0 0 SH.length (zDi SH v MO) 0 0 86 [(0, .ref x0), (2, .int x2)] [] SH M := by
  unfold f_X12_register_86 at hf
  refine z_aload_n dX12_register_86 rfl rfl ?_
  refine z_iconst (v := 0) dX12_register_87 (by decide) ?_
  obtain ⟨M_1, eM_1, hf⟩ := zl_some hf
  refine zpI fl_X12_115 h0 rfl (Or.inl rfl) eM_1 dX12_register_88 ?_
  refine z_iload_n dX12_register_91 rfl rfl ?_
  refine z_if_eq (tgt := 100) dX12_register_92 (by decide) (fun q_2 => ?_) (fun q_2 => ?_)
  · have hf := (if_pos q_2).symm.trans hf
    refine z_aload_n dX12_register_100 rfl rfl ?_
    obtain ⟨a_3, ra_3, hf⟩ := z_rd_some hf
    refine zgR fl_X12_13 h0 (fun _ => rfl) ra_3 dX12_register_101 (fun ha_3 => ?_)
    refine z_aload_n dX12_register_104 rfl rfl ?_
    obtain ⟨a_4, ra_4, hf⟩ := z_rd_some hf
    refine zgR fl_X12_7 h0 (fun _ => rfl) ra_4 dX12_register_105 (fun ha_4 => ?_)
    obtain ⟨v_5, M_6, c_7, hf⟩ := z_call_some hf
    refine z_cSv (t_X12_copies ha_3 ha_4 c_7) kw_X12_copies lk_X12_248 rfl (by decide) rfl (Nat.le_of_ble_eq_true rfl) ⟨Nat.le_refl 0, Nat.le_refl 0⟩ dX12_register_108 ?_
    refine z_aload_n dX12_register_111 rfl rfl ?_
    refine zgI fl_X12_133 h0 (fun _ => rfl) dX12_register_112 ?_
    obtain ⟨rfl, rfl⟩ := z_end hf
    exact z_iret ⟨rfl, rfl, rfl⟩ (Or.inl rfl) dX12_register_115
  · have hf := (if_neg q_2).symm.trans hf
    refine z_aload_n dX12_register_95 rfl rfl ?_
    refine zgI fl_X12_242 h0 (fun _ => rfl) dX12_register_96 ?_
    obtain ⟨rfl, rfl⟩ := z_end hf
    exact z_iret ⟨rfl, rfl, rfl⟩ (Or.inl rfl) dX12_register_99
noncomputable def f_X12_register_82 (x0 : Nat) (k46 : Int32 → zM → Option (Int32 × zM)) (s0 : Int32) (M : zM) : Option (Int32 × zM) :=
  (k46 s0 M)
set_option maxHeartbeats 2000000 in
set_option maxRecDepth 20000 in
theorem t_X12_register_82 {l : Launch} {x0 : Nat} {k46 : Int32 → zM → Option (Int32 × zM)} {s0 : Int32} {M MO : zM} {v : Int32} (h0 : z_tm SH 11 x0) (hk46 : ∀ (x2 : Int32) (M : zM), k46 x2 M = some (v, MO) → zA l yX12_register cX12_register 3 (some .int) 7 0 0 SH.length (zDi SH v MO) 0 0 46 [(0, .ref x0), (2, .int x2)] [] SH M) (hf : f_X12_register_82 x0 k46 s0 M = some (v, MO)) : zA l yX12_register cX12_register 3 (some .int) 7 0 0 SH.length (zDi SH v MO) 0 0 82 [(0, .ref x0)] [.int s0] SH M := by
  unfold f_X12_register_82 at hf
  refine z_istore_n' (lv' := [(2, .int s0), (0, .ref x0)]) rfl dX12_register_82 (by decide) rfl rfl ?_
  refine z_goto (tgt := 46) dX12_register_83 (by decide) ?_
  refine zA.pick [(0, .ref x0), (2, .int s0)] [1, 0] rfl ?_
  exact hk46 s0 M hf
noncomputable def f_X12_register_81 (x0 : Nat) (k46 : Int32 → zM → Option (Int32 × zM)) (M : zM) : Option (Int32 × zM) :=
  (f_X12_register_82 x0 k46 0 M)
set_option maxHeartbeats 2000000 in
set_option maxRecDepth 20000 in
theorem t_X12_register_81 {l : Launch} {x0 : Nat} {k46 : Int32 → zM → Option (Int32 × zM)} {M MO : zM} {v : Int32} (h0 : z_tm SH 11 x0) (hk46 : ∀ (x2 : Int32) (M : zM), k46 x2 M = some (v, MO) → zA l yX12_register cX12_register 3 (some .int) 7 0 0 SH.length (zDi SH v MO) 0 0 46 [(0, .ref x0), (2, .int x2)] [] SH M) (hf : f_X12_register_81 x0 k46 M = some (v, MO)) : zA l yX12_register cX12_register 3 (some .int) 7 0 0 SH.length (zDi SH v MO) 0 0 81 [(0, .ref x0)] [] SH M := by
  unfold f_X12_register_81 at hf
  refine z_iconst (v := 0) dX12_register_81 (by decide) ?_
  exact t_X12_register_82 h0 hk46 hf
noncomputable def f_X12_register_46 (x0 : Nat) : Nat → Int32 → zM → Option (Int32 × zM)
  | 0, _, _ => none
  | n + 1, x2, M =>
    (if x2 = 0 then (f_X12_register_86 x0 x2 M) else (if (M.1 x0 6) ≤ (M.1 x0 5) then (f_X12_register_86 x0 x2 M) else z_call (f_X12_takes x0 59 M) fun v_3 M_4 => (if v_3 = 0 then (f_X12_register_81 x0 (f_X12_register_46 x0 n) M_4) else z_call (f_X12_readsLine x0 M_4) fun v_7 M_8 => (if v_7 = 0 then (f_X12_register_81 x0 (f_X12_register_46 x0 n) M_8) else (f_X12_register_82 x0 (f_X12_register_46 x0 n) 1 M_8)))))
set_option maxHeartbeats 2000000 in
set_option maxRecDepth 20000 in
theorem t_X12_register_46 {l : Launch} {x0 : Nat} {MO : zM} {v : Int32} (h0 : z_tm SH 11 x0) : ∀ (n : Nat) (x2 : Int32) (M : zM), f_X12_register_46 x0 n x2 M = some (v, MO) → zA l yX12_register cX12_register 3 (some .int) 7 0 0 SH.length (zDi SH v MO) 0 0 46 [(0, .ref x0), (2, .int x2)] [] SH M := by
  intro n
  induction n with
  | zero =>
    intro x2 M hf
    rw [f_X12_register_46] at hf
    cases hf
  | succ n ih =>
    intro x2 M hf
    rw [f_X12_register_46] at hf
    refine z_iload_n dX12_register_46 rfl rfl ?_
    refine z_if_eq (tgt := 86) dX12_register_47 (by decide) (fun q_1 => ?_) (fun q_1 => ?_)
    · have hf := (if_pos q_1).symm.trans hf
      exact t_X12_register_86 h0 hf
    · have hf := (if_neg q_1).symm.trans hf
      refine z_aload_n dX12_register_50 rfl rfl ?_
      refine zgI fl_X12_123 h0 (fun _ => rfl) dX12_register_51 ?_
      refine z_aload_n dX12_register_54 rfl rfl ?_
      refine zgI fl_X12_126 h0 (fun _ => rfl) dX12_register_55 ?_
      refine z_icmp_ge (tgt := 86) dX12_register_58 (by decide) (fun q_2 => ?_) (fun q_2 => ?_)
      · have hf := (if_pos q_2).symm.trans hf
        exact t_X12_register_86 h0 hf
      · have hf := (if_neg q_2).symm.trans hf
        refine z_aload_n dX12_register_61 rfl rfl ?_
        refine z_bipush (v := 59) dX12_register_62 (by decide) ?_
        obtain ⟨v_3, M_4, c_5, hf⟩ := z_call_some hf
        refine z_cVi (t_X12_takes h0 c_5) kw_X12_takes lk_X12_214 h0 rfl (by decide) rfl (Nat.le_of_ble_eq_true rfl) ⟨Nat.le_refl 0, Nat.le_refl 0⟩ dX12_register_64 ?_
        refine z_if_eq (tgt := 81) dX12_register_67 (by decide) (fun q_6 => ?_) (fun q_6 => ?_)
        · have hf := (if_pos q_6).symm.trans hf
          refine zA.pick [(0, .ref x0)] [0] rfl ?_
          exact t_X12_register_81 h0 ih hf
        · have hf := (if_neg q_6).symm.trans hf
          refine z_aload_n dX12_register_70 rfl rfl ?_
          obtain ⟨v_7, M_8, c_9, hf⟩ := z_call_some hf
          refine z_cVi (t_X12_readsLine h0 c_9) kw_X12_readsLine lk_X12_252 h0 rfl (by decide) rfl (Nat.le_of_ble_eq_true rfl) ⟨Nat.le_refl 0, Nat.le_refl 0⟩ dX12_register_71 ?_
          refine z_if_eq (tgt := 81) dX12_register_74 (by decide) (fun q_10 => ?_) (fun q_10 => ?_)
          · have hf := (if_pos q_10).symm.trans hf
            refine zA.pick [(0, .ref x0)] [0] rfl ?_
            exact t_X12_register_81 h0 ih hf
          · have hf := (if_neg q_10).symm.trans hf
            refine z_iconst (v := 1) dX12_register_77 (by decide) ?_
            refine z_goto (tgt := 82) dX12_register_78 (by decide) ?_
            refine zA.pick [(0, .ref x0)] [0] rfl ?_
            exact t_X12_register_82 h0 ih hf
noncomputable def f_X12_register (x0 : Nat) (x1 : Int32) (M : zM) : Option (Int32 × zM) :=
  z_call (f_X12_in x1 1 120 M) fun v_1 M_2 => (if v_1 = 0 then some ((-1), M_2) else (if x1 ≤ (M_2.1 x0 4) then z_call (f_X12_beginsText x0 x1 M_2) fun v_6 M_7 => zl (zu M_7.1 x0 27 0, M_7.2) fun M_9 => z_rd (M_9.2.1 x0 0) fun a_10 => z_rd (M_9.2.1 x0 1) fun a_11 => z_call (f_X12_copies a_10 a_11 M_9) fun v_12 M_13 => z_call (f_X12_readsLine x0 M_13) fun v_15 M_16 => (f_X12_register_46 x0 zF v_15 M_16) else some ((-1), M_2)))
set_option maxHeartbeats 2000000 in
set_option maxRecDepth 20000 in
theorem t_X12_register {l : Launch} {x0 : Nat} {x1 : Int32} {M MO : zM} {v : Int32} (h0 : z_tm SH 11 x0) (hf : f_X12_register x0 x1 M = some (v, MO)) : zMet l yX12_register cX12_register 3 (some .int) 7 0 0 [.ref x0, .int x1] SH M (zDi SH v MO) := by
  refine zMet.of (by decide +kernel) (Nat.le_of_ble_eq_true rfl) (Or.inr (Or.inl rfl)) ?_
  show zA l yX12_register cX12_register 3 (some .int) 7 0 0 SH.length (zDi SH v MO) 0 0 0 [(0, .ref x0), (1, .int x1)] [] SH M
  unfold f_X12_register at hf
  refine z_iload_n dX12_register_0 rfl rfl ?_
  refine z_iconst (v := 1) dX12_register_1 (by decide) ?_
  refine z_bipush (v := 120) dX12_register_2 (by decide) ?_
  obtain ⟨v_1, M_2, c_3, hf⟩ := z_call_some hf
  refine z_cSi (t_X12_in  c_3) kw_X12_in lk_X12_90 rfl (by decide) rfl (Nat.le_of_ble_eq_true rfl) ⟨Nat.le_refl 0, Nat.le_refl 0⟩ dX12_register_4 ?_
  refine z_if_eq (tgt := 18) dX12_register_7 (by decide) (fun q_4 => ?_) (fun q_4 => ?_)
  · have hf := (if_pos q_4).symm.trans hf
    refine z_iconst (v := (-1)) dX12_register_18 (by decide) ?_
    obtain ⟨rfl, rfl⟩ := z_end hf
    exact z_iret ⟨rfl, rfl, rfl⟩ (Or.inl rfl) dX12_register_19
  · have hf := (if_neg q_4).symm.trans hf
    refine z_iload_n dX12_register_10 rfl rfl ?_
    refine z_aload_n dX12_register_11 rfl rfl ?_
    refine zgI fl_X12_115 h0 (fun _ => rfl) dX12_register_12 ?_
    refine z_icmp_le (tgt := 20) dX12_register_15 (by decide) (fun q_5 => ?_) (fun q_5 => ?_)
    · have hf := (if_pos q_5).symm.trans hf
      refine z_aload_n dX12_register_20 rfl rfl ?_
      refine z_iload_n dX12_register_21 rfl rfl ?_
      obtain ⟨v_6, M_7, c_8, hf⟩ := z_call_some hf
      refine z_cVv (t_X12_beginsText h0 c_8) kw_X12_beginsText lk_X12_208 h0 rfl (by decide) rfl (Nat.le_of_ble_eq_true rfl) ⟨Nat.le_refl 0, Nat.le_refl 0⟩ dX12_register_22 ?_
      refine z_aload_n dX12_register_25 rfl rfl ?_
      refine z_iconst (v := 0) dX12_register_26 (by decide) ?_
      obtain ⟨M_9, eM_9, hf⟩ := zl_some hf
      refine zpI fl_X12_242 h0 rfl (Or.inl rfl) eM_9 dX12_register_27 ?_
      refine z_aload_n dX12_register_30 rfl rfl ?_
      obtain ⟨a_10, ra_10, hf⟩ := z_rd_some hf
      refine zgR fl_X12_7 h0 (fun _ => rfl) ra_10 dX12_register_31 (fun ha_10 => ?_)
      refine z_aload_n dX12_register_34 rfl rfl ?_
      obtain ⟨a_11, ra_11, hf⟩ := z_rd_some hf
      refine zgR fl_X12_13 h0 (fun _ => rfl) ra_11 dX12_register_35 (fun ha_11 => ?_)
      obtain ⟨v_12, M_13, c_14, hf⟩ := z_call_some hf
      refine z_cSv (t_X12_copies ha_10 ha_11 c_14) kw_X12_copies lk_X12_248 rfl (by decide) rfl (Nat.le_of_ble_eq_true rfl) ⟨Nat.le_refl 0, Nat.le_refl 0⟩ dX12_register_38 ?_
      refine z_aload_n dX12_register_41 rfl rfl ?_
      obtain ⟨v_15, M_16, c_17, hf⟩ := z_call_some hf
      refine z_cVi (t_X12_readsLine h0 c_17) kw_X12_readsLine lk_X12_252 h0 rfl (by decide) rfl (Nat.le_of_ble_eq_true rfl) ⟨Nat.le_refl 0, Nat.le_refl 0⟩ dX12_register_42 ?_
      refine z_istore_n' (lv' := [(2, .int v_15), (0, .ref x0), (1, .int x1)]) rfl dX12_register_45 (by decide) rfl rfl ?_
      refine zA.pick [(0, .ref x0), (2, .int v_15)] [1, 0] rfl ?_
      exact t_X12_register_46 h0 zF v_15 M_16 hf
    · have hf := (if_neg q_5).symm.trans hf
      refine z_iconst (v := (-1)) dX12_register_18 (by decide) ?_
      obtain ⟨rfl, rfl⟩ := z_end hf
      exact z_iret ⟨rfl, rfl, rfl⟩ (Or.inl rfl) dX12_register_19
noncomputable def f_X12_rises_200 (x0 : Nat) (x1 : Int32) (k9 : Int32 → Int32 → zM → Option (Unit × zM)) (x3 : Int32) (x4 : Int32) (M : zM) : Option (Unit × zM) :=
  z_call (f_X12_above x0 x4 M) fun v_1 M_2 => (k9 x3 v_1 M_2)
set_option maxHeartbeats 2000000 in
set_option maxRecDepth 20000 in
theorem t_X12_rises_200 {l : Launch} {x0 : Nat} {x1 : Int32} {k9 : Int32 → Int32 → zM → Option (Unit × zM)} {x3 : Int32} {x4 : Int32} {M MO : zM} {v : Unit} (h0 : z_tm SH 11 x0) (hk9 : ∀ (x3 : Int32) (x4 : Int32) (M : zM), k9 x3 x4 M = some (v, MO) → zA l yX12_rises cX12_rises 7 none 4 0 0 SH.length (zDv SH MO) 0 0 9 [(0, .ref x0), (1, .int x1), (3, .int x3), (4, .int x4)] [] SH M) (hf : f_X12_rises_200 x0 x1 k9 x3 x4 M = some (v, MO)) : zA l yX12_rises cX12_rises 7 none 4 0 0 SH.length (zDv SH MO) 0 0 200 [(0, .ref x0), (1, .int x1), (3, .int x3), (4, .int x4)] [] SH M := by
  unfold f_X12_rises_200 at hf
  refine z_aload_n dX12_rises_200 rfl rfl ?_
  refine z_iload dX12_rises_201 rfl ?_
  obtain ⟨v_1, M_2, c_3, hf⟩ := z_call_some hf
  refine z_cVi (t_X12_above h0 c_3) kw_X12_above lk_X12_255 h0 rfl (by decide) rfl (Nat.le_of_ble_eq_true rfl) ⟨Nat.le_refl 0, Nat.le_refl 0⟩ dX12_rises_203 ?_
  refine z_istore' (lv' := [(4, .int v_1), (0, .ref x0), (1, .int x1), (3, .int x3)]) dX12_rises_206 (by decide) rfl rfl ?_
  refine z_goto (tgt := 9) dX12_rises_208 (by decide) ?_
  refine zA.pick [(0, .ref x0), (1, .int x1), (3, .int x3), (4, .int v_1)] [1, 2, 3, 0] rfl ?_
  exact hk9 x3 v_1 M_2 hf
noncomputable def f_X12_rises_9 (x0 : Nat) (x1 : Int32) : Nat → Int32 → Int32 → zM → Option (Unit × zM)
  | 0, _, _, _ => none
  | n + 1, x3, x4, M =>
    (if x4 = 24 then zl (zu M.1 x0 30 ((M.1 x0 30) + x3), M.2) fun M_2 => z_rd (M_2.2.1 x0 0) fun a_3 => z_rd (M_2.2.1 x0 0) fun a_4 => if z_ix 696 (z_ln SH a_4) = true then z_call (f_X12_min 999999 ((M_2.1 a_4 (696 : Int32).toNatClampNeg) + x3) M_2) fun v_6 M_7 => if z_ix 696 (z_ln SH a_3) = true then zl (zu M_7.1 a_3 (696 : Int32).toNatClampNeg v_6, M_7.2) fun M_10 => some ((), M_10) else none else none else z_call (f_X12_asks x0 x1 x4 x3 M) fun v_11 M_12 => z_call (f_X12_byLaw x0 107 99 M_12) fun v_14 M_15 => z_call (f_X12_min x3 v_14 M_15) fun v_17 M_18 => z_rd (M_18.2.1 x0 0) fun a_20 => z_rd (M_18.2.1 x0 0) fun a_21 => if z_ix (96 + x4) (z_ln SH a_21) = true then z_call (f_X12_min 99999 ((M_18.1 a_21 ((96 + x4) : Int32).toNatClampNeg) + v_17) M_18) fun v_23 M_24 => if z_ix (96 + x4) (z_ln SH a_20) = true then zl (zu M_24.1 a_20 ((96 + x4) : Int32).toNatClampNeg v_23, M_24.2) fun M_27 => zl (zu M_27.1 x0 29 ((M_27.1 x0 29) + v_17), M_27.2) fun M_28 => zl ((x3 - v_17)) fun x3_29 => (if x3_29 = 0 then some ((), M_28) else z_call (f_X12_takesIn x0 x4 M_28) fun v_31 M_32 => (if v_31 = 0 then (f_X12_rises_200 x0 x1 (f_X12_rises_9 x0 x1 n) x3_29 x4 M_32) else z_call (f_X12_asks x0 x1 x4 x3_29 M_32) fun v_35 M_36 => z_call (f_X12_byLaw x0 100 10 M_36) fun v_38 M_39 => z_rd (M_39.2.1 x0 0) fun a_41 => z_rd (M_39.2.1 x0 0) fun a_42 => if z_ix 698 (z_ln SH a_42) = true then if z_ix 698 (z_ln SH a_41) = true then zl (zu M_39.1 a_41 (698 : Int32).toNatClampNeg (((25173 * (M_39.1 a_42 (698 : Int32).toNatClampNeg)) + 13849) - ((25173 * (M_39.1 a_42 (698 : Int32).toNatClampNeg)) + 13849) / 65536 * 65536), M_39.2) fun M_45 => z_rd (M_45.2.1 x0 0) fun a_46 => if z_ix 698 (z_ln SH a_46) = true then (if v_38 ≤ ((M_45.1 a_46 (698 : Int32).toNatClampNeg) - (M_45.1 a_46 (698 : Int32).toNatClampNeg) / 10 * 10) then (f_X12_rises_200 x0 x1 (f_X12_rises_9 x0 x1 n) x3_29 x4 M_45) else z_rd (M_45.2.1 x0 0) fun a_49 => z_call (f_X12_felt x4 x1 M_45) fun v_50 M_51 => z_rd (M_51.2.1 x0 0) fun a_53 => z_call (f_X12_felt x4 x1 M_51) fun v_54 M_55 => if z_ix v_54 (z_ln SH a_53) = true then z_call (f_X12_min 99999 ((M_55.1 a_53 (v_54 : Int32).toNatClampNeg) + x3_29) M_55) fun v_58 M_59 => if z_ix v_50 (z_ln SH a_49) = true then zl (zu M_59.1 a_49 (v_50 : Int32).toNatClampNeg v_58, M_59.2) fun M_62 => zl (zu M_62.1 x0 28 ((M_62.1 x0 28) + x3_29), M_62.2) fun M_63 => some ((), M_63) else none else none) else none else none else none)) else none else none)
set_option maxHeartbeats 2000000 in
set_option maxRecDepth 20000 in
theorem t_X12_rises_9 {l : Launch} {x0 : Nat} {x1 : Int32} {MO : zM} {v : Unit} (h0 : z_tm SH 11 x0) : ∀ (n : Nat) (x3 : Int32) (x4 : Int32) (M : zM), f_X12_rises_9 x0 x1 n x3 x4 M = some (v, MO) → zA l yX12_rises cX12_rises 7 none 4 0 0 SH.length (zDv SH MO) 0 0 9 [(0, .ref x0), (1, .int x1), (3, .int x3), (4, .int x4)] [] SH M := by
  intro n
  induction n with
  | zero =>
    intro x3 x4 M hf
    rw [f_X12_rises_9] at hf
    cases hf
  | succ n ih =>
    intro x3 x4 M hf
    rw [f_X12_rises_9] at hf
    refine z_iload dX12_rises_9 rfl ?_
    refine z_bipush (v := 24) dX12_rises_11 (by decide) ?_
    refine z_icmp_eq (tgt := 211) dX12_rises_13 (by decide) (fun q_1 => ?_) (fun q_1 => ?_)
    · have hf := (if_pos q_1).symm.trans hf
      refine z_aload_n dX12_rises_211 rfl rfl ?_
      refine z_aload_n dX12_rises_212 rfl rfl ?_
      refine zgI fl_X12_275 h0 (fun _ => rfl) dX12_rises_213 ?_
      refine z_iload_n dX12_rises_216 rfl rfl ?_
      refine z_iadd dX12_rises_217 ?_
      obtain ⟨M_2, eM_2, hf⟩ := zl_some hf
      refine zpI fl_X12_275 h0 rfl (Or.inl rfl) eM_2 dX12_rises_218 ?_
      refine z_aload_n dX12_rises_221 rfl rfl ?_
      obtain ⟨a_3, ra_3, hf⟩ := z_rd_some hf
      refine zgR fl_X12_7 h0 (fun _ => rfl) ra_3 dX12_rises_222 (fun ha_3 => ?_)
      refine z_sipush (v := 696) dX12_rises_225 (by decide) ?_
      refine z_ldcw (v := 999999) dX12_rises_228 cn_X12_278 ?_
      refine z_aload_n dX12_rises_231 rfl rfl ?_
      obtain ⟨a_4, ra_4, hf⟩ := z_rd_some hf
      refine zgR fl_X12_7 h0 (fun _ => rfl) ra_4 dX12_rises_232 (fun ha_4 => ?_)
      refine z_sipush (v := 696) dX12_rises_235 (by decide) ?_
      obtain ⟨g_5, hf⟩ := z_ifs hf
      refine z_iald ha_4 g_5 rfl dX12_rises_238 ?_
      refine z_iload_n dX12_rises_239 rfl rfl ?_
      refine z_iadd dX12_rises_240 ?_
      obtain ⟨v_6, M_7, c_8, hf⟩ := z_call_some hf
      refine z_cSi (t_X12_min  c_8) kw_X12_min lk_X12_98 rfl (by decide) rfl (Nat.le_of_ble_eq_true rfl) ⟨Nat.le_refl 0, Nat.le_refl 0⟩ dX12_rises_241 ?_
      obtain ⟨g_9, hf⟩ := z_ifs hf
      obtain ⟨M_10, eM_10, hf⟩ := zl_some hf
      refine z_iast ha_3 g_9 eM_10 dX12_rises_244 ?_
      obtain ⟨rfl, rfl⟩ := z_end hf
      exact z_vret ⟨rfl, rfl, rfl⟩ rfl dX12_rises_245
    · have hf := (if_neg q_1).symm.trans hf
      refine z_aload_n dX12_rises_16 rfl rfl ?_
      refine z_iload_n dX12_rises_17 rfl rfl ?_
      refine z_iload dX12_rises_18 rfl ?_
      refine z_iload_n dX12_rises_20 rfl rfl ?_
      obtain ⟨v_11, M_12, c_13, hf⟩ := z_call_some hf
      refine z_cVv (t_X12_asks h0 c_13) kw_X12_asks lk_X12_258 h0 rfl (by decide) rfl (Nat.le_of_ble_eq_true rfl) ⟨Nat.le_refl 0, Nat.le_refl 0⟩ dX12_rises_21 ?_
      refine z_iload_n dX12_rises_24 rfl rfl ?_
      refine z_aload_n dX12_rises_25 rfl rfl ?_
      refine z_bipush (v := 107) dX12_rises_26 (by decide) ?_
      refine z_bipush (v := 99) dX12_rises_28 (by decide) ?_
      obtain ⟨v_14, M_15, c_16, hf⟩ := z_call_some hf
      refine z_cVi (t_X12_byLaw h0 c_16) kw_X12_byLaw lk_X12_261 h0 rfl (by decide) rfl (Nat.le_of_ble_eq_true rfl) ⟨Nat.le_refl 0, Nat.le_refl 0⟩ dX12_rises_30 ?_
      obtain ⟨v_17, M_18, c_19, hf⟩ := z_call_some hf
      refine z_cSi (t_X12_min  c_19) kw_X12_min lk_X12_98 rfl (by decide) rfl (Nat.le_of_ble_eq_true rfl) ⟨Nat.le_refl 0, Nat.le_refl 0⟩ dX12_rises_33 ?_
      refine z_istore' (lv' := [(5, .int v_17), (0, .ref x0), (1, .int x1), (3, .int x3), (4, .int x4)]) dX12_rises_36 (by decide) rfl rfl ?_
      refine z_aload_n dX12_rises_38 rfl rfl ?_
      obtain ⟨a_20, ra_20, hf⟩ := z_rd_some hf
      refine zgR fl_X12_7 h0 (fun _ => rfl) ra_20 dX12_rises_39 (fun ha_20 => ?_)
      refine z_bipush (v := 96) dX12_rises_42 (by decide) ?_
      refine z_iload dX12_rises_44 rfl ?_
      refine z_iadd dX12_rises_46 ?_
      refine z_ldcw (v := 99999) dX12_rises_47 cn_X12_264 ?_
      refine z_aload_n dX12_rises_50 rfl rfl ?_
      obtain ⟨a_21, ra_21, hf⟩ := z_rd_some hf
      refine zgR fl_X12_7 h0 (fun _ => rfl) ra_21 dX12_rises_51 (fun ha_21 => ?_)
      refine z_bipush (v := 96) dX12_rises_54 (by decide) ?_
      refine z_iload dX12_rises_56 rfl ?_
      refine z_iadd dX12_rises_58 ?_
      obtain ⟨g_22, hf⟩ := z_ifs hf
      refine z_iald ha_21 g_22 rfl dX12_rises_59 ?_
      refine z_iload dX12_rises_60 rfl ?_
      refine z_iadd dX12_rises_62 ?_
      obtain ⟨v_23, M_24, c_25, hf⟩ := z_call_some hf
      refine z_cSi (t_X12_min  c_25) kw_X12_min lk_X12_98 rfl (by decide) rfl (Nat.le_of_ble_eq_true rfl) ⟨Nat.le_refl 0, Nat.le_refl 0⟩ dX12_rises_63 ?_
      obtain ⟨g_26, hf⟩ := z_ifs hf
      obtain ⟨M_27, eM_27, hf⟩ := zl_some hf
      refine z_iast ha_20 g_26 eM_27 dX12_rises_66 ?_
      refine z_aload_n dX12_rises_67 rfl rfl ?_
      refine z_aload_n dX12_rises_68 rfl rfl ?_
      refine zgI fl_X12_265 h0 (fun _ => rfl) dX12_rises_69 ?_
      refine z_iload dX12_rises_72 rfl ?_
      refine z_iadd dX12_rises_74 ?_
      obtain ⟨M_28, eM_28, hf⟩ := zl_some hf
      refine zpI fl_X12_265 h0 rfl (Or.inl rfl) eM_28 dX12_rises_75 ?_
      refine z_iload_n dX12_rises_78 rfl rfl ?_
      refine z_iload dX12_rises_79 rfl ?_
      refine z_isub dX12_rises_81 ?_
      obtain ⟨x3_29, ex3_29, hf⟩ := zl_some hf
      refine z_istore_n' (lv' := [(3, .int x3_29), (5, .int v_17), (0, .ref x0), (1, .int x1), (4, .int x4)]) rfl dX12_rises_82 (by decide) ex3_29 rfl ?_
      refine z_iload_n dX12_rises_83 rfl rfl ?_
      refine z_if_ne (tgt := 88) dX12_rises_84 (by decide) (fun q_30 => ?_) (fun q_30 => ?_)
      · have hf := (if_neg q_30).symm.trans hf
        refine z_aload_n dX12_rises_88 rfl rfl ?_
        refine z_iload dX12_rises_89 rfl ?_
        obtain ⟨v_31, M_32, c_33, hf⟩ := z_call_some hf
        refine z_cVi (t_X12_takesIn h0 c_33) kw_X12_takesIn lk_X12_268 h0 rfl (by decide) rfl (Nat.le_of_ble_eq_true rfl) ⟨Nat.le_refl 0, Nat.le_refl 0⟩ dX12_rises_91 ?_
        refine z_if_eq (tgt := 200) dX12_rises_94 (by decide) (fun q_34 => ?_) (fun q_34 => ?_)
        · have hf := (if_pos q_34).symm.trans hf
          refine zA.pick [(0, .ref x0), (1, .int x1), (3, .int x3_29), (4, .int x4)] [2, 3, 0, 4] rfl ?_
          exact t_X12_rises_200 h0 ih hf
        · have hf := (if_neg q_34).symm.trans hf
          refine z_aload_n dX12_rises_97 rfl rfl ?_
          refine z_iload_n dX12_rises_98 rfl rfl ?_
          refine z_iload dX12_rises_99 rfl ?_
          refine z_iload_n dX12_rises_101 rfl rfl ?_
          obtain ⟨v_35, M_36, c_37, hf⟩ := z_call_some hf
          refine z_cVv (t_X12_asks h0 c_37) kw_X12_asks lk_X12_258 h0 rfl (by decide) rfl (Nat.le_of_ble_eq_true rfl) ⟨Nat.le_refl 0, Nat.le_refl 0⟩ dX12_rises_102 ?_
          refine z_aload_n dX12_rises_105 rfl rfl ?_
          refine z_bipush (v := 100) dX12_rises_106 (by decide) ?_
          refine z_bipush (v := 10) dX12_rises_108 (by decide) ?_
          obtain ⟨v_38, M_39, c_40, hf⟩ := z_call_some hf
          refine z_cVi (t_X12_byLaw h0 c_40) kw_X12_byLaw lk_X12_261 h0 rfl (by decide) rfl (Nat.le_of_ble_eq_true rfl) ⟨Nat.le_refl 0, Nat.le_refl 0⟩ dX12_rises_110 ?_
          refine z_istore' (lv' := [(6, .int v_38), (3, .int x3_29), (5, .int v_17), (0, .ref x0), (1, .int x1), (4, .int x4)]) dX12_rises_113 (by decide) rfl rfl ?_
          refine z_aload_n dX12_rises_115 rfl rfl ?_
          obtain ⟨a_41, ra_41, hf⟩ := z_rd_some hf
          refine zgR fl_X12_7 h0 (fun _ => rfl) ra_41 dX12_rises_116 (fun ha_41 => ?_)
          refine z_sipush (v := 698) dX12_rises_119 (by decide) ?_
          refine z_sipush (v := 25173) dX12_rises_122 (by decide) ?_
          refine z_aload_n dX12_rises_125 rfl rfl ?_
          obtain ⟨a_42, ra_42, hf⟩ := z_rd_some hf
          refine zgR fl_X12_7 h0 (fun _ => rfl) ra_42 dX12_rises_126 (fun ha_42 => ?_)
          refine z_sipush (v := 698) dX12_rises_129 (by decide) ?_
          obtain ⟨g_43, hf⟩ := z_ifs hf
          refine z_iald ha_42 g_43 rfl dX12_rises_132 ?_
          refine z_imul dX12_rises_133 ?_
          refine z_sipush (v := 13849) dX12_rises_134 (by decide) ?_
          refine z_iadd dX12_rises_137 ?_
          refine z_ldcw (v := 65536) dX12_rises_138 cn_X12_271 ?_
          refine z_irem dX12_rises_141 (by decide) ?_
          obtain ⟨g_44, hf⟩ := z_ifs hf
          obtain ⟨M_45, eM_45, hf⟩ := zl_some hf
          refine z_iast ha_41 g_44 eM_45 dX12_rises_142 ?_
          refine z_aload_n dX12_rises_143 rfl rfl ?_
          obtain ⟨a_46, ra_46, hf⟩ := z_rd_some hf
          refine zgR fl_X12_7 h0 (fun _ => rfl) ra_46 dX12_rises_144 (fun ha_46 => ?_)
          refine z_sipush (v := 698) dX12_rises_147 (by decide) ?_
          obtain ⟨g_47, hf⟩ := z_ifs hf
          refine z_iald ha_46 g_47 rfl dX12_rises_150 ?_
          refine z_bipush (v := 10) dX12_rises_151 (by decide) ?_
          refine z_irem dX12_rises_153 (by decide) ?_
          refine z_iload dX12_rises_154 rfl ?_
          refine z_icmp_ge (tgt := 200) dX12_rises_156 (by decide) (fun q_48 => ?_) (fun q_48 => ?_)
          · have hf := (if_pos q_48).symm.trans hf
            refine zA.pick [(0, .ref x0), (1, .int x1), (3, .int x3_29), (4, .int x4)] [3, 4, 1, 5] rfl ?_
            exact t_X12_rises_200 h0 ih hf
          · have hf := (if_neg q_48).symm.trans hf
            refine z_aload_n dX12_rises_159 rfl rfl ?_
            obtain ⟨a_49, ra_49, hf⟩ := z_rd_some hf
            refine zgR fl_X12_7 h0 (fun _ => rfl) ra_49 dX12_rises_160 (fun ha_49 => ?_)
            refine z_iload dX12_rises_163 rfl ?_
            refine z_iload_n dX12_rises_165 rfl rfl ?_
            obtain ⟨v_50, M_51, c_52, hf⟩ := z_call_some hf
            refine z_cSi (t_X12_felt  c_52) kw_X12_felt lk_X12_94 rfl (by decide) rfl (Nat.le_of_ble_eq_true rfl) ⟨Nat.le_refl 0, Nat.le_refl 0⟩ dX12_rises_166 ?_
            refine z_ldcw (v := 99999) dX12_rises_169 cn_X12_264 ?_
            refine z_aload_n dX12_rises_172 rfl rfl ?_
            obtain ⟨a_53, ra_53, hf⟩ := z_rd_some hf
            refine zgR fl_X12_7 h0 (fun _ => rfl) ra_53 dX12_rises_173 (fun ha_53 => ?_)
            refine z_iload dX12_rises_176 rfl ?_
            refine z_iload_n dX12_rises_178 rfl rfl ?_
            obtain ⟨v_54, M_55, c_56, hf⟩ := z_call_some hf
            refine z_cSi (t_X12_felt  c_56) kw_X12_felt lk_X12_94 rfl (by decide) rfl (Nat.le_of_ble_eq_true rfl) ⟨Nat.le_refl 0, Nat.le_refl 0⟩ dX12_rises_179 ?_
            obtain ⟨g_57, hf⟩ := z_ifs hf
            refine z_iald ha_53 g_57 rfl dX12_rises_182 ?_
            refine z_iload_n dX12_rises_183 rfl rfl ?_
            refine z_iadd dX12_rises_184 ?_
            obtain ⟨v_58, M_59, c_60, hf⟩ := z_call_some hf
            refine z_cSi (t_X12_min  c_60) kw_X12_min lk_X12_98 rfl (by decide) rfl (Nat.le_of_ble_eq_true rfl) ⟨Nat.le_refl 0, Nat.le_refl 0⟩ dX12_rises_185 ?_
            obtain ⟨g_61, hf⟩ := z_ifs hf
            obtain ⟨M_62, eM_62, hf⟩ := zl_some hf
            refine z_iast ha_49 g_61 eM_62 dX12_rises_188 ?_
            refine z_aload_n dX12_rises_189 rfl rfl ?_
            refine z_aload_n dX12_rises_190 rfl rfl ?_
            refine zgI fl_X12_272 h0 (fun _ => rfl) dX12_rises_191 ?_
            refine z_iload_n dX12_rises_194 rfl rfl ?_
            refine z_iadd dX12_rises_195 ?_
            obtain ⟨M_63, eM_63, hf⟩ := zl_some hf
            refine zpI fl_X12_272 h0 rfl (Or.inl rfl) eM_63 dX12_rises_196 ?_
            obtain ⟨rfl, rfl⟩ := z_end hf
            exact z_vret ⟨rfl, rfl, rfl⟩ rfl dX12_rises_199
      · have hf := (if_pos q_30).symm.trans hf
        obtain ⟨rfl, rfl⟩ := z_end hf
        exact z_vret ⟨rfl, rfl, rfl⟩ rfl dX12_rises_87
noncomputable def f_X12_rises (x0 : Nat) (x1 : Int32) (x2 : Int32) (M : zM) : Option (Unit × zM) :=
  z_call (f_X12_above x0 x1 M) fun v_1 M_2 => (f_X12_rises_9 x0 x1 zF x2 v_1 M_2)
set_option maxHeartbeats 2000000 in
set_option maxRecDepth 20000 in
theorem t_X12_rises {l : Launch} {x0 : Nat} {x1 : Int32} {x2 : Int32} {M MO : zM} {v : Unit} (h0 : z_tm SH 11 x0) (hf : f_X12_rises x0 x1 x2 M = some (v, MO)) : zMet l yX12_rises cX12_rises 7 none 4 0 0 [.ref x0, .int x1, .int x2] SH M (zDv SH MO) := by
  refine zMet.of (by decide +kernel) (Nat.le_of_ble_eq_true rfl) (Or.inl rfl) ?_
  show zA l yX12_rises cX12_rises 7 none 4 0 0 SH.length (zDv SH MO) 0 0 0 [(0, .ref x0), (1, .int x1), (2, .int x2)] [] SH M
  unfold f_X12_rises at hf
  refine z_iload_n dX12_rises_0 rfl rfl ?_
  refine z_istore_n' (lv' := [(3, .int x2), (0, .ref x0), (1, .int x1), (2, .int x2)]) rfl dX12_rises_1 (by decide) rfl rfl ?_
  refine z_aload_n dX12_rises_2 rfl rfl ?_
  refine z_iload_n dX12_rises_3 rfl rfl ?_
  obtain ⟨v_1, M_2, c_3, hf⟩ := z_call_some hf
  refine z_cVi (t_X12_above h0 c_3) kw_X12_above lk_X12_255 h0 rfl (by decide) rfl (Nat.le_of_ble_eq_true rfl) ⟨Nat.le_refl 0, Nat.le_refl 0⟩ dX12_rises_4 ?_
  refine z_istore' (lv' := [(4, .int v_1), (3, .int x2), (0, .ref x0), (1, .int x1), (2, .int x2)]) dX12_rises_7 (by decide) rfl rfl ?_
  refine zA.pick [(0, .ref x0), (1, .int x1), (3, .int x2), (4, .int v_1)] [2, 3, 1, 0] rfl ?_
  exact t_X12_rises_9 h0 zF x2 v_1 M_2 hf
noncomputable def f_X12_hourGoes_101 (x0 : Nat) (k2 : Int32 → zM → Option (Unit × zM)) (x1 : Int32) (M : zM) : Option (Unit × zM) :=
  zl (x1 + 1) fun x1_1 => (k2 x1_1 M)
set_option maxHeartbeats 2000000 in
set_option maxRecDepth 20000 in
theorem t_X12_hourGoes_101 {l : Launch} {x0 : Nat} {k2 : Int32 → zM → Option (Unit × zM)} {x1 : Int32} {M MO : zM} {v : Unit} (h0 : z_tm SH 11 x0) (hk2 : ∀ (x1 : Int32) (M : zM), k2 x1 M = some (v, MO) → zA l yX12_hourGoes cX12_hourGoes 3 none 5 0 0 SH.length (zDv SH MO) 0 0 2 [(0, .ref x0), (1, .int x1)] [] SH M) (hf : f_X12_hourGoes_101 x0 k2 x1 M = some (v, MO)) : zA l yX12_hourGoes cX12_hourGoes 3 none 5 0 0 SH.length (zDv SH MO) 0 0 101 [(0, .ref x0), (1, .int x1)] [] SH M := by
  unfold f_X12_hourGoes_101 at hf
  obtain ⟨x1_1, ex1_1, hf⟩ := zl_some hf
  refine z_iinc' (lv' := [(1, .int x1_1), (0, .ref x0)]) dX12_hourGoes_101 rfl (by decide) ex1_1 (by decide) rfl ?_
  refine z_goto (tgt := 2) dX12_hourGoes_104 (by decide) ?_
  refine zA.pick [(0, .ref x0), (1, .int x1_1)] [1, 0] rfl ?_
  exact hk2 x1_1 M hf
noncomputable def f_X12_hourGoes_2 (x0 : Nat) : Nat → Int32 → zM → Option (Unit × zM)
  | 0, _, _ => none
  | n + 1, x1, M =>
    (if 24 ≤ x1 then z_rd (M.2.1 x0 0) fun a_2 => z_rd (M.2.1 x0 0) fun a_3 => if z_ix 697 (z_ln SH a_3) = true then if z_ix 697 (z_ln SH a_2) = true then zl (zu M.1 a_2 (697 : Int32).toNatClampNeg ((M.1 a_3 (697 : Int32).toNatClampNeg) + 1), M.2) fun M_6 => some ((), M_6) else none else none else z_call (f_X12_takesIn x0 x1 M) fun v_7 M_8 => (if v_7 = 0 then (f_X12_hourGoes_101 x0 (f_X12_hourGoes_2 x0 n) x1 M_8) else z_rd (M_8.2.1 x0 0) fun a_11 => if z_ix (24 + x1) (z_ln SH a_11) = true then (if (M_8.1 a_11 ((24 + x1) : Int32).toNatClampNeg) = 0 then (f_X12_hourGoes_101 x0 (f_X12_hourGoes_2 x0 n) x1 M_8) else z_call (f_X12_asks x0 x1 x1 0 M_8) fun v_14 M_15 => z_call (f_X12_holdsAny x0 120 M_15) fun v_17 M_18 => (if v_17 = 0 then z_rd (M_18.2.1 x0 0) fun a_21 => if z_ix (24 + x1) (z_ln SH a_21) = true then z_call (f_X12_byLaw x0 99 99 M_18) fun v_23 M_24 => z_call (f_X12_min (M_18.1 a_21 ((24 + x1) : Int32).toNatClampNeg) v_23 M_24) fun v_26 M_27 => z_rd (M_27.2.1 x0 0) fun a_29 => z_rd (M_27.2.1 x0 0) fun a_30 => if z_ix (24 + x1) (z_ln SH a_30) = true then if z_ix (24 + x1) (z_ln SH a_29) = true then zl (zu M_27.1 a_29 ((24 + x1) : Int32).toNatClampNeg ((M_27.1 a_30 ((24 + x1) : Int32).toNatClampNeg) - v_26), M_27.2) fun M_33 => (if v_26 ≤ 0 then (f_X12_hourGoes_101 x0 (f_X12_hourGoes_2 x0 n) x1 M_33) else z_call (f_X12_rises x0 x1 v_26 M_33) fun v_35 M_36 => (f_X12_hourGoes_101 x0 (f_X12_hourGoes_2 x0 n) x1 M_36)) else none else none else none else (f_X12_hourGoes_101 x0 (f_X12_hourGoes_2 x0 n) x1 M_18))) else none))
set_option maxHeartbeats 2000000 in
set_option maxRecDepth 20000 in
theorem t_X12_hourGoes_2 {l : Launch} {x0 : Nat} {MO : zM} {v : Unit} (h0 : z_tm SH 11 x0) : ∀ (n : Nat) (x1 : Int32) (M : zM), f_X12_hourGoes_2 x0 n x1 M = some (v, MO) → zA l yX12_hourGoes cX12_hourGoes 3 none 5 0 0 SH.length (zDv SH MO) 0 0 2 [(0, .ref x0), (1, .int x1)] [] SH M := by
  intro n
  induction n with
  | zero =>
    intro x1 M hf
    rw [f_X12_hourGoes_2] at hf
    cases hf
  | succ n ih =>
    intro x1 M hf
    rw [f_X12_hourGoes_2] at hf
    refine z_iload_n dX12_hourGoes_2 rfl rfl ?_
    refine z_bipush (v := 24) dX12_hourGoes_3 (by decide) ?_
    refine z_icmp_ge (tgt := 107) dX12_hourGoes_5 (by decide) (fun q_1 => ?_) (fun q_1 => ?_)
    · have hf := (if_pos q_1).symm.trans hf
      refine z_aload_n dX12_hourGoes_107 rfl rfl ?_
      obtain ⟨a_2, ra_2, hf⟩ := z_rd_some hf
      refine zgR fl_X12_7 h0 (fun _ => rfl) ra_2 dX12_hourGoes_108 (fun ha_2 => ?_)
      refine z_sipush (v := 697) dX12_hourGoes_111 (by decide) ?_
      refine z_aload_n dX12_hourGoes_114 rfl rfl ?_
      obtain ⟨a_3, ra_3, hf⟩ := z_rd_some hf
      refine zgR fl_X12_7 h0 (fun _ => rfl) ra_3 dX12_hourGoes_115 (fun ha_3 => ?_)
      refine z_sipush (v := 697) dX12_hourGoes_118 (by decide) ?_
      obtain ⟨g_4, hf⟩ := z_ifs hf
      refine z_iald ha_3 g_4 rfl dX12_hourGoes_121 ?_
      refine z_iconst (v := 1) dX12_hourGoes_122 (by decide) ?_
      refine z_iadd dX12_hourGoes_123 ?_
      obtain ⟨g_5, hf⟩ := z_ifs hf
      obtain ⟨M_6, eM_6, hf⟩ := zl_some hf
      refine z_iast ha_2 g_5 eM_6 dX12_hourGoes_124 ?_
      obtain ⟨rfl, rfl⟩ := z_end hf
      exact z_vret ⟨rfl, rfl, rfl⟩ rfl dX12_hourGoes_125
    · have hf := (if_neg q_1).symm.trans hf
      refine z_aload_n dX12_hourGoes_8 rfl rfl ?_
      refine z_iload_n dX12_hourGoes_9 rfl rfl ?_
      obtain ⟨v_7, M_8, c_9, hf⟩ := z_call_some hf
      refine z_cVi (t_X12_takesIn h0 c_9) kw_X12_takesIn lk_X12_268 h0 rfl (by decide) rfl (Nat.le_of_ble_eq_true rfl) ⟨Nat.le_refl 0, Nat.le_refl 0⟩ dX12_hourGoes_10 ?_
      refine z_if_eq (tgt := 101) dX12_hourGoes_13 (by decide) (fun q_10 => ?_) (fun q_10 => ?_)
      · have hf := (if_pos q_10).symm.trans hf
        exact t_X12_hourGoes_101 h0 ih hf
      · have hf := (if_neg q_10).symm.trans hf
        refine z_aload_n dX12_hourGoes_16 rfl rfl ?_
        obtain ⟨a_11, ra_11, hf⟩ := z_rd_some hf
        refine zgR fl_X12_7 h0 (fun _ => rfl) ra_11 dX12_hourGoes_17 (fun ha_11 => ?_)
        refine z_bipush (v := 24) dX12_hourGoes_20 (by decide) ?_
        refine z_iload_n dX12_hourGoes_22 rfl rfl ?_
        refine z_iadd dX12_hourGoes_23 ?_
        obtain ⟨g_12, hf⟩ := z_ifs hf
        refine z_iald ha_11 g_12 rfl dX12_hourGoes_24 ?_
        refine z_if_ne (tgt := 31) dX12_hourGoes_25 (by decide) (fun q_13 => ?_) (fun q_13 => ?_)
        · have hf := (if_neg q_13).symm.trans hf
          refine z_aload_n dX12_hourGoes_31 rfl rfl ?_
          refine z_iload_n dX12_hourGoes_32 rfl rfl ?_
          refine z_iload_n dX12_hourGoes_33 rfl rfl ?_
          refine z_iconst (v := 0) dX12_hourGoes_34 (by decide) ?_
          obtain ⟨v_14, M_15, c_16, hf⟩ := z_call_some hf
          refine z_cVv (t_X12_asks h0 c_16) kw_X12_asks lk_X12_258 h0 rfl (by decide) rfl (Nat.le_of_ble_eq_true rfl) ⟨Nat.le_refl 0, Nat.le_refl 0⟩ dX12_hourGoes_35 ?_
          refine z_aload_n dX12_hourGoes_38 rfl rfl ?_
          refine z_bipush (v := 120) dX12_hourGoes_39 (by decide) ?_
          obtain ⟨v_17, M_18, c_19, hf⟩ := z_call_some hf
          refine z_cVi (t_X12_holdsAny h0 c_19) kw_X12_holdsAny lk_X12_279 h0 rfl (by decide) rfl (Nat.le_of_ble_eq_true rfl) ⟨Nat.le_refl 0, Nat.le_refl 0⟩ dX12_hourGoes_41 ?_
          refine z_if_eq (tgt := 50) dX12_hourGoes_44 (by decide) (fun q_20 => ?_) (fun q_20 => ?_)
          · have hf := (if_pos q_20).symm.trans hf
            refine z_aload_n dX12_hourGoes_50 rfl rfl ?_
            obtain ⟨a_21, ra_21, hf⟩ := z_rd_some hf
            refine zgR fl_X12_7 h0 (fun _ => rfl) ra_21 dX12_hourGoes_51 (fun ha_21 => ?_)
            refine z_bipush (v := 24) dX12_hourGoes_54 (by decide) ?_
            refine z_iload_n dX12_hourGoes_56 rfl rfl ?_
            refine z_iadd dX12_hourGoes_57 ?_
            obtain ⟨g_22, hf⟩ := z_ifs hf
            refine z_iald ha_21 g_22 rfl dX12_hourGoes_58 ?_
            refine z_aload_n dX12_hourGoes_59 rfl rfl ?_
            refine z_bipush (v := 99) dX12_hourGoes_60 (by decide) ?_
            refine z_bipush (v := 99) dX12_hourGoes_62 (by decide) ?_
            obtain ⟨v_23, M_24, c_25, hf⟩ := z_call_some hf
            refine z_cVi (t_X12_byLaw h0 c_25) kw_X12_byLaw lk_X12_261 h0 rfl (by decide) rfl (Nat.le_of_ble_eq_true rfl) ⟨Nat.le_refl 0, Nat.le_refl 0⟩ dX12_hourGoes_64 ?_
            obtain ⟨v_26, M_27, c_28, hf⟩ := z_call_some hf
            refine z_cSi (t_X12_min  c_28) kw_X12_min lk_X12_98 rfl (by decide) rfl (Nat.le_of_ble_eq_true rfl) ⟨Nat.le_refl 0, Nat.le_refl 0⟩ dX12_hourGoes_67 ?_
            refine z_istore_n' (lv' := [(2, .int v_26), (0, .ref x0), (1, .int x1)]) rfl dX12_hourGoes_70 (by decide) rfl rfl ?_
            refine z_aload_n dX12_hourGoes_71 rfl rfl ?_
            obtain ⟨a_29, ra_29, hf⟩ := z_rd_some hf
            refine zgR fl_X12_7 h0 (fun _ => rfl) ra_29 dX12_hourGoes_72 (fun ha_29 => ?_)
            refine z_bipush (v := 24) dX12_hourGoes_75 (by decide) ?_
            refine z_iload_n dX12_hourGoes_77 rfl rfl ?_
            refine z_iadd dX12_hourGoes_78 ?_
            refine z_aload_n dX12_hourGoes_79 rfl rfl ?_
            obtain ⟨a_30, ra_30, hf⟩ := z_rd_some hf
            refine zgR fl_X12_7 h0 (fun _ => rfl) ra_30 dX12_hourGoes_80 (fun ha_30 => ?_)
            refine z_bipush (v := 24) dX12_hourGoes_83 (by decide) ?_
            refine z_iload_n dX12_hourGoes_85 rfl rfl ?_
            refine z_iadd dX12_hourGoes_86 ?_
            obtain ⟨g_31, hf⟩ := z_ifs hf
            refine z_iald ha_30 g_31 rfl dX12_hourGoes_87 ?_
            refine z_iload_n dX12_hourGoes_88 rfl rfl ?_
            refine z_isub dX12_hourGoes_89 ?_
            obtain ⟨g_32, hf⟩ := z_ifs hf
            obtain ⟨M_33, eM_33, hf⟩ := zl_some hf
            refine z_iast ha_29 g_32 eM_33 dX12_hourGoes_90 ?_
            refine z_iload_n dX12_hourGoes_91 rfl rfl ?_
            refine z_if_le (tgt := 101) dX12_hourGoes_92 (by decide) (fun q_34 => ?_) (fun q_34 => ?_)
            · have hf := (if_pos q_34).symm.trans hf
              refine zA.pick [(0, .ref x0), (1, .int x1)] [1, 2] rfl ?_
              exact t_X12_hourGoes_101 h0 ih hf
            · have hf := (if_neg q_34).symm.trans hf
              refine z_aload_n dX12_hourGoes_95 rfl rfl ?_
              refine z_iload_n dX12_hourGoes_96 rfl rfl ?_
              refine z_iload_n dX12_hourGoes_97 rfl rfl ?_
              obtain ⟨v_35, M_36, c_37, hf⟩ := z_call_some hf
              refine z_cVv (t_X12_rises h0 c_37) kw_X12_rises lk_X12_282 h0 rfl (by decide) rfl (Nat.le_of_ble_eq_true rfl) ⟨Nat.le_refl 0, Nat.le_refl 0⟩ dX12_hourGoes_98 ?_
              refine zA.pick [(0, .ref x0), (1, .int x1)] [1, 2] rfl ?_
              exact t_X12_hourGoes_101 h0 ih hf
          · have hf := (if_neg q_20).symm.trans hf
            refine z_goto (tgt := 101) dX12_hourGoes_47 (by decide) ?_
            exact t_X12_hourGoes_101 h0 ih hf
        · have hf := (if_pos q_13).symm.trans hf
          refine z_goto (tgt := 101) dX12_hourGoes_28 (by decide) ?_
          exact t_X12_hourGoes_101 h0 ih hf
noncomputable def f_X12_hourGoes (x0 : Nat) (M : zM) : Option (Unit × zM) :=
  (f_X12_hourGoes_2 x0 zF 0 M)
set_option maxHeartbeats 2000000 in
set_option maxRecDepth 20000 in
theorem t_X12_hourGoes {l : Launch} {x0 : Nat} {M MO : zM} {v : Unit} (h0 : z_tm SH 11 x0) (hf : f_X12_hourGoes x0 M = some (v, MO)) : zMet l yX12_hourGoes cX12_hourGoes 3 none 5 0 0 [.ref x0] SH M (zDv SH MO) := by
  refine zMet.of (by decide +kernel) (Nat.le_of_ble_eq_true rfl) (Or.inl rfl) ?_
  show zA l yX12_hourGoes cX12_hourGoes 3 none 5 0 0 SH.length (zDv SH MO) 0 0 0 [(0, .ref x0)] [] SH M
  unfold f_X12_hourGoes at hf
  refine z_iconst (v := 0) dX12_hourGoes_0 (by decide) ?_
  refine z_istore_n' (lv' := [(1, .int 0), (0, .ref x0)]) rfl dX12_hourGoes_1 (by decide) rfl rfl ?_
  refine zA.pick [(0, .ref x0), (1, .int 0)] [1, 0] rfl ?_
  exact t_X12_hourGoes_2 h0 zF 0 M hf
noncomputable def f_X12_hoursGo_17 (x0 : Nat) (x1 : Int32) : Nat → Int32 → zM → Option (Unit × zM)
  | 0, _, _ => none
  | n + 1, x2, M =>
    (if x1 ≤ x2 then some ((), M) else z_rd (M.2.1 x0 0) fun a_2 => if z_ix 697 (z_ln SH a_2) = true then (if 99999 ≤ (M.1 a_2 (697 : Int32).toNatClampNeg) then some ((), M) else z_call (f_X12_hourGoes x0 M) fun v_5 M_6 => zl (x2 + 1) fun x2_8 => (f_X12_hoursGo_17 x0 x1 n x2_8 M_6)) else none)
set_option maxHeartbeats 2000000 in
set_option maxRecDepth 20000 in
theorem t_X12_hoursGo_17 {l : Launch} {x0 : Nat} {x1 : Int32} {MO : zM} {v : Unit} (h0 : z_tm SH 11 x0) : ∀ (n : Nat) (x2 : Int32) (M : zM), f_X12_hoursGo_17 x0 x1 n x2 M = some (v, MO) → zA l yX12_hoursGo cX12_hoursGo 3 none 6 0 0 SH.length (zDv SH MO) 0 0 17 [(0, .ref x0), (1, .int x1), (2, .int x2)] [] SH M := by
  intro n
  induction n with
  | zero =>
    intro x2 M hf
    rw [f_X12_hoursGo_17] at hf
    cases hf
  | succ n ih =>
    intro x2 M hf
    rw [f_X12_hoursGo_17] at hf
    refine z_iload_n dX12_hoursGo_17 rfl rfl ?_
    refine z_iload_n dX12_hoursGo_18 rfl rfl ?_
    refine z_icmp_ge (tgt := 46) dX12_hoursGo_19 (by decide) (fun q_1 => ?_) (fun q_1 => ?_)
    · have hf := (if_pos q_1).symm.trans hf
      obtain ⟨rfl, rfl⟩ := z_end hf
      exact z_vret ⟨rfl, rfl, rfl⟩ rfl dX12_hoursGo_46
    · have hf := (if_neg q_1).symm.trans hf
      refine z_aload_n dX12_hoursGo_22 rfl rfl ?_
      obtain ⟨a_2, ra_2, hf⟩ := z_rd_some hf
      refine zgR fl_X12_7 h0 (fun _ => rfl) ra_2 dX12_hoursGo_23 (fun ha_2 => ?_)
      refine z_sipush (v := 697) dX12_hoursGo_26 (by decide) ?_
      obtain ⟨g_3, hf⟩ := z_ifs hf
      refine z_iald ha_2 g_3 rfl dX12_hoursGo_29 ?_
      refine z_ldcw (v := 99999) dX12_hoursGo_30 cn_X12_264 ?_
      refine z_icmp_ge (tgt := 46) dX12_hoursGo_33 (by decide) (fun q_4 => ?_) (fun q_4 => ?_)
      · have hf := (if_pos q_4).symm.trans hf
        obtain ⟨rfl, rfl⟩ := z_end hf
        exact z_vret ⟨rfl, rfl, rfl⟩ rfl dX12_hoursGo_46
      · have hf := (if_neg q_4).symm.trans hf
        refine z_aload_n dX12_hoursGo_36 rfl rfl ?_
        obtain ⟨v_5, M_6, c_7, hf⟩ := z_call_some hf
        refine z_cVv (t_X12_hourGoes h0 c_7) kw_X12_hourGoes lk_X12_285 h0 rfl (by decide) rfl (Nat.le_of_ble_eq_true rfl) ⟨Nat.le_refl 0, Nat.le_refl 0⟩ dX12_hoursGo_37 ?_
        obtain ⟨x2_8, ex2_8, hf⟩ := zl_some hf
        refine z_iinc' (lv' := [(2, .int x2_8), (0, .ref x0), (1, .int x1)]) dX12_hoursGo_40 rfl (by decide) ex2_8 (by decide) rfl ?_
        refine z_goto (tgt := 17) dX12_hoursGo_43 (by decide) ?_
        refine zA.pick [(0, .ref x0), (1, .int x1), (2, .int x2_8)] [1, 2, 0] rfl ?_
        exact ih x2_8 M_6 hf
noncomputable def f_X12_hoursGo (x0 : Nat) (x1 : Int32) (M : zM) : Option (Unit × zM) :=
  zl (zu M.1 x0 28 0, M.2) fun M_1 => zl (zu M_1.1 x0 29 0, M_1.2) fun M_2 => zl (zu M_2.1 x0 30 0, M_2.2) fun M_3 => (f_X12_hoursGo_17 x0 x1 zF 0 M_3)
set_option maxHeartbeats 2000000 in
set_option maxRecDepth 20000 in
theorem t_X12_hoursGo {l : Launch} {x0 : Nat} {x1 : Int32} {M MO : zM} {v : Unit} (h0 : z_tm SH 11 x0) (hf : f_X12_hoursGo x0 x1 M = some (v, MO)) : zMet l yX12_hoursGo cX12_hoursGo 3 none 6 0 0 [.ref x0, .int x1] SH M (zDv SH MO) := by
  refine zMet.of (by decide +kernel) (Nat.le_of_ble_eq_true rfl) (Or.inl rfl) ?_
  show zA l yX12_hoursGo cX12_hoursGo 3 none 6 0 0 SH.length (zDv SH MO) 0 0 0 [(0, .ref x0), (1, .int x1)] [] SH M
  unfold f_X12_hoursGo at hf
  refine z_aload_n dX12_hoursGo_0 rfl rfl ?_
  refine z_iconst (v := 0) dX12_hoursGo_1 (by decide) ?_
  obtain ⟨M_1, eM_1, hf⟩ := zl_some hf
  refine zpI fl_X12_272 h0 rfl (Or.inl rfl) eM_1 dX12_hoursGo_2 ?_
  refine z_aload_n dX12_hoursGo_5 rfl rfl ?_
  refine z_iconst (v := 0) dX12_hoursGo_6 (by decide) ?_
  obtain ⟨M_2, eM_2, hf⟩ := zl_some hf
  refine zpI fl_X12_265 h0 rfl (Or.inl rfl) eM_2 dX12_hoursGo_7 ?_
  refine z_aload_n dX12_hoursGo_10 rfl rfl ?_
  refine z_iconst (v := 0) dX12_hoursGo_11 (by decide) ?_
  obtain ⟨M_3, eM_3, hf⟩ := zl_some hf
  refine zpI fl_X12_275 h0 rfl (Or.inl rfl) eM_3 dX12_hoursGo_12 ?_
  refine z_iconst (v := 0) dX12_hoursGo_15 (by decide) ?_
  refine z_istore_n' (lv' := [(2, .int 0), (0, .ref x0), (1, .int x1)]) rfl dX12_hoursGo_16 (by decide) rfl rfl ?_
  refine zA.pick [(0, .ref x0), (1, .int x1), (2, .int 0)] [1, 2, 0] rfl ?_
  exact t_X12_hoursGo_17 h0 zF 0 M_3 hf
noncomputable def f_X12_hours (x0 : Nat) (x1 : Int32) (M : zM) : Option (Int32 × zM) :=
  z_call (f_X12_in x1 1 240 M) fun v_1 M_2 => (if v_1 = 0 then some ((-1), M_2) else z_call (f_X12_hoursGo x0 x1 M_2) fun v_5 M_6 => some ((M_6.1 x0 28), M_6))
set_option maxHeartbeats 2000000 in
set_option maxRecDepth 20000 in
theorem t_X12_hours {l : Launch} {x0 : Nat} {x1 : Int32} {M MO : zM} {v : Int32} (h0 : z_tm SH 11 x0) (hf : f_X12_hours x0 x1 M = some (v, MO)) : zMet l yX12_hours cX12_hours 2 (some .int) 7 0 0 [.ref x0, .int x1] SH M (zDi SH v MO) := by
  refine zMet.of (by decide +kernel) (Nat.le_of_ble_eq_true rfl) (Or.inr (Or.inl rfl)) ?_
  show zA l yX12_hours cX12_hours 2 (some .int) 7 0 0 SH.length (zDi SH v MO) 0 0 0 [(0, .ref x0), (1, .int x1)] [] SH M
  unfold f_X12_hours at hf
  refine z_iload_n dX12_hours_0 rfl rfl ?_
  refine z_iconst (v := 1) dX12_hours_1 (by decide) ?_
  refine z_sipush (v := 240) dX12_hours_2 (by decide) ?_
  obtain ⟨v_1, M_2, c_3, hf⟩ := z_call_some hf
  refine z_cSi (t_X12_in  c_3) kw_X12_in lk_X12_90 rfl (by decide) rfl (Nat.le_of_ble_eq_true rfl) ⟨Nat.le_refl 0, Nat.le_refl 0⟩ dX12_hours_5 ?_
  refine z_if_ne (tgt := 13) dX12_hours_8 (by decide) (fun q_4 => ?_) (fun q_4 => ?_)
  · have hf := (if_neg q_4).symm.trans hf
    refine z_aload_n dX12_hours_13 rfl rfl ?_
    refine z_iload_n dX12_hours_14 rfl rfl ?_
    obtain ⟨v_5, M_6, c_7, hf⟩ := z_call_some hf
    refine z_cVv (t_X12_hoursGo h0 c_7) kw_X12_hoursGo lk_X12_288 h0 rfl (by decide) rfl (Nat.le_of_ble_eq_true rfl) ⟨Nat.le_refl 0, Nat.le_refl 0⟩ dX12_hours_15 ?_
    refine z_aload_n dX12_hours_18 rfl rfl ?_
    refine zgI fl_X12_272 h0 (fun _ => rfl) dX12_hours_19 ?_
    obtain ⟨rfl, rfl⟩ := z_end hf
    exact z_iret ⟨rfl, rfl, rfl⟩ (Or.inl rfl) dX12_hours_22
  · have hf := (if_pos q_4).symm.trans hf
    refine z_iconst (v := (-1)) dX12_hours_11 (by decide) ?_
    obtain ⟨rfl, rfl⟩ := z_end hf
    exact z_iret ⟨rfl, rfl, rfl⟩ (Or.inl rfl) dX12_hours_12
noncomputable def f_X12_sumOf_4 (x0 : Nat) (x1 : Int32) : Nat → Int32 → Int32 → zM → Option (Int32 × zM)
  | 0, _, _, _ => none
  | n + 1, x2, x3, M =>
    (if 24 ≤ x3 then some (x2, M) else z_rd (M.2.1 x0 0) fun a_2 => if z_ix (x1 + x3) (z_ln SH a_2) = true then zl ((x2 + (M.1 a_2 ((x1 + x3) : Int32).toNatClampNeg))) fun x2_4 => zl (x3 + 1) fun x3_5 => (f_X12_sumOf_4 x0 x1 n x2_4 x3_5 M) else none)
set_option maxHeartbeats 2000000 in
set_option maxRecDepth 20000 in
theorem t_X12_sumOf_4 {l : Launch} {x0 : Nat} {x1 : Int32} {MO : zM} {v : Int32} (h0 : z_tm SH 11 x0) : ∀ (n : Nat) (x2 : Int32) (x3 : Int32) (M : zM), f_X12_sumOf_4 x0 x1 n x2 x3 M = some (v, MO) → zA l yX12_sumOf cX12_sumOf 4 (some .int) 1 0 0 SH.length (zDi SH v MO) 0 0 4 [(0, .ref x0), (1, .int x1), (2, .int x2), (3, .int x3)] [] SH M := by
  intro n
  induction n with
  | zero =>
    intro x2 x3 M hf
    rw [f_X12_sumOf_4] at hf
    cases hf
  | succ n ih =>
    intro x2 x3 M hf
    rw [f_X12_sumOf_4] at hf
    refine z_iload_n dX12_sumOf_4 rfl rfl ?_
    refine z_bipush (v := 24) dX12_sumOf_5 (by decide) ?_
    refine z_icmp_ge (tgt := 27) dX12_sumOf_7 (by decide) (fun q_1 => ?_) (fun q_1 => ?_)
    · have hf := (if_pos q_1).symm.trans hf
      refine z_iload_n dX12_sumOf_27 rfl rfl ?_
      obtain ⟨rfl, rfl⟩ := z_end hf
      exact z_iret ⟨rfl, rfl, rfl⟩ (Or.inl rfl) dX12_sumOf_28
    · have hf := (if_neg q_1).symm.trans hf
      refine z_iload_n dX12_sumOf_10 rfl rfl ?_
      refine z_aload_n dX12_sumOf_11 rfl rfl ?_
      obtain ⟨a_2, ra_2, hf⟩ := z_rd_some hf
      refine zgR fl_X12_7 h0 (fun _ => rfl) ra_2 dX12_sumOf_12 (fun ha_2 => ?_)
      refine z_iload_n dX12_sumOf_15 rfl rfl ?_
      refine z_iload_n dX12_sumOf_16 rfl rfl ?_
      refine z_iadd dX12_sumOf_17 ?_
      obtain ⟨g_3, hf⟩ := z_ifs hf
      refine z_iald ha_2 g_3 rfl dX12_sumOf_18 ?_
      refine z_iadd dX12_sumOf_19 ?_
      obtain ⟨x2_4, ex2_4, hf⟩ := zl_some hf
      refine z_istore_n' (lv' := [(2, .int x2_4), (0, .ref x0), (1, .int x1), (3, .int x3)]) rfl dX12_sumOf_20 (by decide) ex2_4 rfl ?_
      obtain ⟨x3_5, ex3_5, hf⟩ := zl_some hf
      refine z_iinc' (lv' := [(3, .int x3_5), (2, .int x2_4), (0, .ref x0), (1, .int x1)]) dX12_sumOf_21 rfl (by decide) ex3_5 (by decide) rfl ?_
      refine z_goto (tgt := 4) dX12_sumOf_24 (by decide) ?_
      refine zA.pick [(0, .ref x0), (1, .int x1), (2, .int x2_4), (3, .int x3_5)] [2, 3, 1, 0] rfl ?_
      exact ih x2_4 x3_5 M hf
noncomputable def f_X12_sumOf (x0 : Nat) (x1 : Int32) (M : zM) : Option (Int32 × zM) :=
  (f_X12_sumOf_4 x0 x1 zF 0 0 M)
set_option maxHeartbeats 2000000 in
set_option maxRecDepth 20000 in
theorem t_X12_sumOf {l : Launch} {x0 : Nat} {x1 : Int32} {M MO : zM} {v : Int32} (h0 : z_tm SH 11 x0) (hf : f_X12_sumOf x0 x1 M = some (v, MO)) : zMet l yX12_sumOf cX12_sumOf 4 (some .int) 1 0 0 [.ref x0, .int x1] SH M (zDi SH v MO) := by
  refine zMet.of (by decide +kernel) (Nat.le_of_ble_eq_true rfl) (Or.inr (Or.inl rfl)) ?_
  show zA l yX12_sumOf cX12_sumOf 4 (some .int) 1 0 0 SH.length (zDi SH v MO) 0 0 0 [(0, .ref x0), (1, .int x1)] [] SH M
  unfold f_X12_sumOf at hf
  refine z_iconst (v := 0) dX12_sumOf_0 (by decide) ?_
  refine z_istore_n' (lv' := [(2, .int 0), (0, .ref x0), (1, .int x1)]) rfl dX12_sumOf_1 (by decide) rfl rfl ?_
  refine z_iconst (v := 0) dX12_sumOf_2 (by decide) ?_
  refine z_istore_n' (lv' := [(3, .int 0), (2, .int 0), (0, .ref x0), (1, .int x1)]) rfl dX12_sumOf_3 (by decide) rfl rfl ?_
  refine zA.pick [(0, .ref x0), (1, .int x1), (2, .int 0), (3, .int 0)] [2, 3, 1, 0] rfl ?_
  exact t_X12_sumOf_4 h0 zF 0 0 M hf
noncomputable def f_X12_tried_123 (x0 : Nat) (x3 : Int32) (M : zM) : Option (Int32 × zM) :=
  z_rd (M.2.1 x0 1) fun a_1 => z_rd (M.2.1 x0 0) fun a_2 => z_call (f_X12_copies a_1 a_2 M) fun v_3 M_4 => some (x3, M_4)
set_option maxHeartbeats 2000000 in
set_option maxRecDepth 20000 in
theorem t_X12_tried_123 {l : Launch} {x0 : Nat} {x3 : Int32} {M MO : zM} {v : Int32} (h0 : z_tm SH 11 x0) (hf : f_X12_tried_123 x0 x3 M = some (v, MO)) : zA l yX12_tried cX12_tried 4 (some .int) 7 0 0 SH.length (zDi SH v MO) 0 0 123 [(0, .ref x0), (3, .int x3)] [] SH M := by
  unfold f_X12_tried_123 at hf
  refine z_aload_n dX12_tried_123 rfl rfl ?_
  obtain ⟨a_1, ra_1, hf⟩ := z_rd_some hf
  refine zgR fl_X12_13 h0 (fun _ => rfl) ra_1 dX12_tried_124 (fun ha_1 => ?_)
  refine z_aload_n dX12_tried_127 rfl rfl ?_
  obtain ⟨a_2, ra_2, hf⟩ := z_rd_some hf
  refine zgR fl_X12_7 h0 (fun _ => rfl) ra_2 dX12_tried_128 (fun ha_2 => ?_)
  obtain ⟨v_3, M_4, c_5, hf⟩ := z_call_some hf
  refine z_cSv (t_X12_copies ha_1 ha_2 c_5) kw_X12_copies lk_X12_248 rfl (by decide) rfl (Nat.le_of_ble_eq_true rfl) ⟨Nat.le_refl 0, Nat.le_refl 0⟩ dX12_tried_131 ?_
  refine z_iload_n dX12_tried_134 rfl rfl ?_
  obtain ⟨rfl, rfl⟩ := z_end hf
  exact z_iret ⟨rfl, rfl, rfl⟩ (Or.inl rfl) dX12_tried_135
noncomputable def f_X12_tried_32 (x0 : Nat) (x1 : Int32) (x2 : Int32) (M : zM) : Option (Int32 × zM) :=
  z_rd (M.2.1 x0 0) fun a_1 => z_rd (M.2.1 x0 1) fun a_2 => z_call (f_X12_copies a_1 a_2 M) fun v_3 M_4 => z_call (f_X12_hoursGo x0 x1 M_4) fun v_6 M_7 => (if x2 = 0 then zl ((M_7.1 x0 28)) fun x3_10 => (f_X12_tried_123 x0 x3_10 M_7) else if x2 = 1 then zl ((M_7.1 x0 29)) fun x3_12 => (f_X12_tried_123 x0 x3_12 M_7) else if x2 = 2 then zl ((M_7.1 x0 30)) fun x3_14 => (f_X12_tried_123 x0 x3_14 M_7) else if x2 = 3 then z_call (f_X12_sumOf x0 24 M_7) fun v_16 M_17 => (f_X12_tried_123 x0 v_16 M_17) else z_call (f_X12_feltIn x0 (x2 - 100) M_7) fun v_19 M_20 => (f_X12_tried_123 x0 v_19 M_20))
set_option maxHeartbeats 2000000 in
set_option maxRecDepth 20000 in
theorem t_X12_tried_32 {l : Launch} {x0 : Nat} {x1 : Int32} {x2 : Int32} {M MO : zM} {v : Int32} (h0 : z_tm SH 11 x0) (hf : f_X12_tried_32 x0 x1 x2 M = some (v, MO)) : zA l yX12_tried cX12_tried 4 (some .int) 7 0 0 SH.length (zDi SH v MO) 0 0 32 [(0, .ref x0), (1, .int x1), (2, .int x2)] [] SH M := by
  unfold f_X12_tried_32 at hf
  refine z_aload_n dX12_tried_32 rfl rfl ?_
  obtain ⟨a_1, ra_1, hf⟩ := z_rd_some hf
  refine zgR fl_X12_7 h0 (fun _ => rfl) ra_1 dX12_tried_33 (fun ha_1 => ?_)
  refine z_aload_n dX12_tried_36 rfl rfl ?_
  obtain ⟨a_2, ra_2, hf⟩ := z_rd_some hf
  refine zgR fl_X12_13 h0 (fun _ => rfl) ra_2 dX12_tried_37 (fun ha_2 => ?_)
  obtain ⟨v_3, M_4, c_5, hf⟩ := z_call_some hf
  refine z_cSv (t_X12_copies ha_1 ha_2 c_5) kw_X12_copies lk_X12_248 rfl (by decide) rfl (Nat.le_of_ble_eq_true rfl) ⟨Nat.le_refl 0, Nat.le_refl 0⟩ dX12_tried_40 ?_
  refine z_aload_n dX12_tried_43 rfl rfl ?_
  refine z_iload_n dX12_tried_44 rfl rfl ?_
  obtain ⟨v_6, M_7, c_8, hf⟩ := z_call_some hf
  refine z_cVv (t_X12_hoursGo h0 c_8) kw_X12_hoursGo lk_X12_288 h0 rfl (by decide) rfl (Nat.le_of_ble_eq_true rfl) ⟨Nat.le_refl 0, Nat.le_refl 0⟩ dX12_tried_45 ?_
  refine z_iload_n dX12_tried_48 rfl rfl ?_
  by_cases q_9 : x2 = 0
  · have hf := (if_pos q_9).symm.trans hf
    refine z_tabIn (tgt := 80) (off := 31) dX12_tried_49 (by rw [q_9]; decide) (by rw [q_9]; decide) (by rw [q_9]; rfl) (by decide) ?_
    refine z_aload_n dX12_tried_80 rfl rfl ?_
    refine zgI fl_X12_272 h0 (fun _ => rfl) dX12_tried_81 ?_
    obtain ⟨x3_10, ex3_10, hf⟩ := zl_some hf
    refine z_istore_n' (lv' := [(3, .int x3_10), (0, .ref x0), (1, .int x1), (2, .int x2)]) rfl dX12_tried_84 (by decide) ex3_10 rfl ?_
    refine z_goto (tgt := 123) dX12_tried_85 (by decide) ?_
    refine zA.pick [(0, .ref x0), (3, .int x3_10)] [1, 0] rfl ?_
    exact t_X12_tried_123 h0 hf
  have hf := (if_neg q_9).symm.trans hf
  by_cases q_11 : x2 = 1
  · have hf := (if_pos q_11).symm.trans hf
    refine z_tabIn (tgt := 88) (off := 39) dX12_tried_49 (by rw [q_11]; decide) (by rw [q_11]; decide) (by rw [q_11]; rfl) (by decide) ?_
    refine z_aload_n dX12_tried_88 rfl rfl ?_
    refine zgI fl_X12_265 h0 (fun _ => rfl) dX12_tried_89 ?_
    obtain ⟨x3_12, ex3_12, hf⟩ := zl_some hf
    refine z_istore_n' (lv' := [(3, .int x3_12), (0, .ref x0), (1, .int x1), (2, .int x2)]) rfl dX12_tried_92 (by decide) ex3_12 rfl ?_
    refine z_goto (tgt := 123) dX12_tried_93 (by decide) ?_
    refine zA.pick [(0, .ref x0), (3, .int x3_12)] [1, 0] rfl ?_
    exact t_X12_tried_123 h0 hf
  have hf := (if_neg q_11).symm.trans hf
  by_cases q_13 : x2 = 2
  · have hf := (if_pos q_13).symm.trans hf
    refine z_tabIn (tgt := 96) (off := 47) dX12_tried_49 (by rw [q_13]; decide) (by rw [q_13]; decide) (by rw [q_13]; rfl) (by decide) ?_
    refine z_aload_n dX12_tried_96 rfl rfl ?_
    refine zgI fl_X12_275 h0 (fun _ => rfl) dX12_tried_97 ?_
    obtain ⟨x3_14, ex3_14, hf⟩ := zl_some hf
    refine z_istore_n' (lv' := [(3, .int x3_14), (0, .ref x0), (1, .int x1), (2, .int x2)]) rfl dX12_tried_100 (by decide) ex3_14 rfl ?_
    refine z_goto (tgt := 123) dX12_tried_101 (by decide) ?_
    refine zA.pick [(0, .ref x0), (3, .int x3_14)] [1, 0] rfl ?_
    exact t_X12_tried_123 h0 hf
  have hf := (if_neg q_13).symm.trans hf
  by_cases q_15 : x2 = 3
  · have hf := (if_pos q_15).symm.trans hf
    refine z_tabIn (tgt := 104) (off := 55) dX12_tried_49 (by rw [q_15]; decide) (by rw [q_15]; decide) (by rw [q_15]; rfl) (by decide) ?_
    refine z_aload_n dX12_tried_104 rfl rfl ?_
    refine z_bipush (v := 24) dX12_tried_105 (by decide) ?_
    obtain ⟨v_16, M_17, c_18, hf⟩ := z_call_some hf
    refine z_cVi (t_X12_sumOf h0 c_18) kw_X12_sumOf lk_X12_291 h0 rfl (by decide) rfl (Nat.le_of_ble_eq_true rfl) ⟨Nat.le_refl 0, Nat.le_refl 0⟩ dX12_tried_107 ?_
    refine z_istore_n' (lv' := [(3, .int v_16), (0, .ref x0), (1, .int x1), (2, .int x2)]) rfl dX12_tried_110 (by decide) rfl rfl ?_
    refine z_goto (tgt := 123) dX12_tried_111 (by decide) ?_
    refine zA.pick [(0, .ref x0), (3, .int v_16)] [1, 0] rfl ?_
    exact t_X12_tried_123 h0 hf
  have hf := (if_neg q_15).symm.trans hf
  refine z_tabD (tgt := 114) dX12_tried_49 [0, 1, 2, 3] (List.forall_mem_cons.mpr ⟨lv_neT q_9 (by decide), (List.forall_mem_cons.mpr ⟨lv_neT q_11 (by decide), (List.forall_mem_cons.mpr ⟨lv_neT q_13 (by decide), (List.forall_mem_cons.mpr ⟨lv_neT q_15 (by decide), (fun _ h => absurd h List.not_mem_nil)⟩)⟩)⟩)⟩) (by decide) (by decide) ?_
  refine z_aload_n dX12_tried_114 rfl rfl ?_
  refine z_iload_n dX12_tried_115 rfl rfl ?_
  refine z_bipush (v := 100) dX12_tried_116 (by decide) ?_
  refine z_isub dX12_tried_118 ?_
  obtain ⟨v_19, M_20, c_21, hf⟩ := z_call_some hf
  refine z_cVi (t_X12_feltIn h0 c_21) kw_X12_feltIn lk_X12_227 h0 rfl (by decide) rfl (Nat.le_of_ble_eq_true rfl) ⟨Nat.le_refl 0, Nat.le_refl 0⟩ dX12_tried_119 ?_
  refine z_istore_n' (lv' := [(3, .int v_19), (0, .ref x0), (1, .int x1), (2, .int x2)]) rfl dX12_tried_122 (by decide) rfl rfl ?_
  refine zA.pick [(0, .ref x0), (3, .int v_19)] [1, 0] rfl ?_
  exact t_X12_tried_123 h0 hf
noncomputable def f_X12_tried (x0 : Nat) (x1 : Int32) (x2 : Int32) (M : zM) : Option (Int32 × zM) :=
  z_call (f_X12_in x1 1 240 M) fun v_1 M_2 => (if v_1 = 0 then some ((-1), M_2) else z_call (f_X12_in x2 0 3 M_2) fun v_5 M_6 => (if v_5 = 0 then z_call (f_X12_isRoom (x2 - 100) M_6) fun v_9 M_10 => (if v_9 = 0 then some ((-1), M_10) else (f_X12_tried_32 x0 x1 x2 M_10)) else (f_X12_tried_32 x0 x1 x2 M_6)))
set_option maxHeartbeats 2000000 in
set_option maxRecDepth 20000 in
theorem t_X12_tried {l : Launch} {x0 : Nat} {x1 : Int32} {x2 : Int32} {M MO : zM} {v : Int32} (h0 : z_tm SH 11 x0) (hf : f_X12_tried x0 x1 x2 M = some (v, MO)) : zMet l yX12_tried cX12_tried 4 (some .int) 7 0 0 [.ref x0, .int x1, .int x2] SH M (zDi SH v MO) := by
  refine zMet.of (by decide +kernel) (Nat.le_of_ble_eq_true rfl) (Or.inr (Or.inl rfl)) ?_
  show zA l yX12_tried cX12_tried 4 (some .int) 7 0 0 SH.length (zDi SH v MO) 0 0 0 [(0, .ref x0), (1, .int x1), (2, .int x2)] [] SH M
  unfold f_X12_tried at hf
  refine z_iload_n dX12_tried_0 rfl rfl ?_
  refine z_iconst (v := 1) dX12_tried_1 (by decide) ?_
  refine z_sipush (v := 240) dX12_tried_2 (by decide) ?_
  obtain ⟨v_1, M_2, c_3, hf⟩ := z_call_some hf
  refine z_cSi (t_X12_in  c_3) kw_X12_in lk_X12_90 rfl (by decide) rfl (Nat.le_of_ble_eq_true rfl) ⟨Nat.le_refl 0, Nat.le_refl 0⟩ dX12_tried_5 ?_
  refine z_if_eq (tgt := 30) dX12_tried_8 (by decide) (fun q_4 => ?_) (fun q_4 => ?_)
  · have hf := (if_pos q_4).symm.trans hf
    refine z_iconst (v := (-1)) dX12_tried_30 (by decide) ?_
    obtain ⟨rfl, rfl⟩ := z_end hf
    exact z_iret ⟨rfl, rfl, rfl⟩ (Or.inl rfl) dX12_tried_31
  · have hf := (if_neg q_4).symm.trans hf
    refine z_iload_n dX12_tried_11 rfl rfl ?_
    refine z_iconst (v := 0) dX12_tried_12 (by decide) ?_
    refine z_iconst (v := 3) dX12_tried_13 (by decide) ?_
    obtain ⟨v_5, M_6, c_7, hf⟩ := z_call_some hf
    refine z_cSi (t_X12_in  c_7) kw_X12_in lk_X12_90 rfl (by decide) rfl (Nat.le_of_ble_eq_true rfl) ⟨Nat.le_refl 0, Nat.le_refl 0⟩ dX12_tried_14 ?_
    refine z_if_ne (tgt := 32) dX12_tried_17 (by decide) (fun q_8 => ?_) (fun q_8 => ?_)
    · have hf := (if_neg q_8).symm.trans hf
      exact t_X12_tried_32 h0 hf
    · have hf := (if_pos q_8).symm.trans hf
      refine z_iload_n dX12_tried_20 rfl rfl ?_
      refine z_bipush (v := 100) dX12_tried_21 (by decide) ?_
      refine z_isub dX12_tried_23 ?_
      obtain ⟨v_9, M_10, c_11, hf⟩ := z_call_some hf
      refine z_cSi (t_X12_isRoom  c_11) kw_X12_isRoom lk_X12_107 rfl (by decide) rfl (Nat.le_of_ble_eq_true rfl) ⟨Nat.le_refl 0, Nat.le_refl 0⟩ dX12_tried_24 ?_
      refine z_if_ne (tgt := 32) dX12_tried_27 (by decide) (fun q_12 => ?_) (fun q_12 => ?_)
      · have hf := (if_neg q_12).symm.trans hf
        exact t_X12_tried_32 h0 hf
      · have hf := (if_pos q_12).symm.trans hf
        refine z_iconst (v := (-1)) dX12_tried_30 (by decide) ?_
        obtain ⟨rfl, rfl⟩ := z_end hf
        exact z_iret ⟨rfl, rfl, rfl⟩ (Or.inl rfl) dX12_tried_31
noncomputable def f_X12_feltMost_55 (x0 : Nat) (x1 : Int32) (k5 : Int32 → Int32 → zM → Option (Int32 × zM)) (x2 : Int32) (x3 : Int32) (M : zM) : Option (Int32 × zM) :=
  zl (x3 + 1) fun x3_1 => (k5 x2 x3_1 M)
set_option maxHeartbeats 2000000 in
set_option maxRecDepth 20000 in
theorem t_X12_feltMost_55 {l : Launch} {x0 : Nat} {x1 : Int32} {k5 : Int32 → Int32 → zM → Option (Int32 × zM)} {x2 : Int32} {x3 : Int32} {M MO : zM} {v : Int32} (h0 : z_tm SH 11 x0) (hk5 : ∀ (x2 : Int32) (x3 : Int32) (M : zM), k5 x2 x3 M = some (v, MO) → zA l yX12_feltMost cX12_feltMost 4 (some .int) 2 0 0 SH.length (zDi SH v MO) 0 0 5 [(0, .ref x0), (1, .int x1), (2, .int x2), (3, .int x3)] [] SH M) (hf : f_X12_feltMost_55 x0 x1 k5 x2 x3 M = some (v, MO)) : zA l yX12_feltMost cX12_feltMost 4 (some .int) 2 0 0 SH.length (zDi SH v MO) 0 0 55 [(0, .ref x0), (1, .int x1), (2, .int x2), (3, .int x3)] [] SH M := by
  unfold f_X12_feltMost_55 at hf
  obtain ⟨x3_1, ex3_1, hf⟩ := zl_some hf
  refine z_iinc' (lv' := [(3, .int x3_1), (0, .ref x0), (1, .int x1), (2, .int x2)]) dX12_feltMost_55 rfl (by decide) ex3_1 (by decide) rfl ?_
  refine z_goto (tgt := 5) dX12_feltMost_58 (by decide) ?_
  refine zA.pick [(0, .ref x0), (1, .int x1), (2, .int x2), (3, .int x3_1)] [1, 2, 3, 0] rfl ?_
  exact hk5 x2 x3_1 M hf
noncomputable def f_X12_feltMost_53 (x0 : Nat) (x1 : Int32) (k5 : Int32 → Int32 → zM → Option (Int32 × zM)) (x3 : Int32) (M : zM) : Option (Int32 × zM) :=
  (f_X12_feltMost_55 x0 x1 k5 x3 x3 M)
set_option maxHeartbeats 2000000 in
set_option maxRecDepth 20000 in
theorem t_X12_feltMost_53 {l : Launch} {x0 : Nat} {x1 : Int32} {k5 : Int32 → Int32 → zM → Option (Int32 × zM)} {x3 : Int32} {M MO : zM} {v : Int32} (h0 : z_tm SH 11 x0) (hk5 : ∀ (x2 : Int32) (x3 : Int32) (M : zM), k5 x2 x3 M = some (v, MO) → zA l yX12_feltMost cX12_feltMost 4 (some .int) 2 0 0 SH.length (zDi SH v MO) 0 0 5 [(0, .ref x0), (1, .int x1), (2, .int x2), (3, .int x3)] [] SH M) (hf : f_X12_feltMost_53 x0 x1 k5 x3 M = some (v, MO)) : zA l yX12_feltMost cX12_feltMost 4 (some .int) 2 0 0 SH.length (zDi SH v MO) 0 0 53 [(0, .ref x0), (1, .int x1), (3, .int x3)] [] SH M := by
  unfold f_X12_feltMost_53 at hf
  refine z_iload_n dX12_feltMost_53 rfl rfl ?_
  refine z_istore_n' (lv' := [(2, .int x3), (0, .ref x0), (1, .int x1), (3, .int x3)]) rfl dX12_feltMost_54 (by decide) rfl rfl ?_
  refine zA.pick [(0, .ref x0), (1, .int x1), (2, .int x3), (3, .int x3)] [1, 2, 0, 3] rfl ?_
  exact t_X12_feltMost_55 h0 hk5 hf
noncomputable def f_X12_feltMost_5 (x0 : Nat) (x1 : Int32) : Nat → Int32 → Int32 → zM → Option (Int32 × zM)
  | 0, _, _, _ => none
  | n + 1, x2, x3, M =>
    (if 24 ≤ x3 then some (x2, M) else z_rd (M.2.1 x0 0) fun a_2 => z_call (f_X12_felt x1 x3 M) fun v_3 M_4 => if z_ix v_3 (z_ln SH a_2) = true then (if (M_4.1 a_2 (v_3 : Int32).toNatClampNeg) ≤ 0 then (f_X12_feltMost_55 x0 x1 (f_X12_feltMost_5 x0 x1 n) x2 x3 M_4) else (if x2 = (-2) then (f_X12_feltMost_53 x0 x1 (f_X12_feltMost_5 x0 x1 n) x3 M_4) else z_rd (M_4.2.1 x0 0) fun a_9 => z_call (f_X12_felt x1 x3 M_4) fun v_10 M_11 => if z_ix v_10 (z_ln SH a_9) = true then z_rd (M_11.2.1 x0 0) fun a_14 => z_call (f_X12_felt x1 x2 M_11) fun v_15 M_16 => if z_ix v_15 (z_ln SH a_14) = true then (if (M_11.1 a_9 (v_10 : Int32).toNatClampNeg) ≤ (M_16.1 a_14 (v_15 : Int32).toNatClampNeg) then (f_X12_feltMost_55 x0 x1 (f_X12_feltMost_5 x0 x1 n) x2 x3 M_16) else (f_X12_feltMost_53 x0 x1 (f_X12_feltMost_5 x0 x1 n) x3 M_16)) else none else none)) else none)
set_option maxHeartbeats 2000000 in
set_option maxRecDepth 20000 in
theorem t_X12_feltMost_5 {l : Launch} {x0 : Nat} {x1 : Int32} {MO : zM} {v : Int32} (h0 : z_tm SH 11 x0) : ∀ (n : Nat) (x2 : Int32) (x3 : Int32) (M : zM), f_X12_feltMost_5 x0 x1 n x2 x3 M = some (v, MO) → zA l yX12_feltMost cX12_feltMost 4 (some .int) 2 0 0 SH.length (zDi SH v MO) 0 0 5 [(0, .ref x0), (1, .int x1), (2, .int x2), (3, .int x3)] [] SH M := by
  intro n
  induction n with
  | zero =>
    intro x2 x3 M hf
    rw [f_X12_feltMost_5] at hf
    cases hf
  | succ n ih =>
    intro x2 x3 M hf
    rw [f_X12_feltMost_5] at hf
    refine z_iload_n dX12_feltMost_5 rfl rfl ?_
    refine z_bipush (v := 24) dX12_feltMost_6 (by decide) ?_
    refine z_icmp_ge (tgt := 61) dX12_feltMost_8 (by decide) (fun q_1 => ?_) (fun q_1 => ?_)
    · have hf := (if_pos q_1).symm.trans hf
      refine z_iload_n dX12_feltMost_61 rfl rfl ?_
      obtain ⟨rfl, rfl⟩ := z_end hf
      exact z_iret ⟨rfl, rfl, rfl⟩ (Or.inl rfl) dX12_feltMost_62
    · have hf := (if_neg q_1).symm.trans hf
      refine z_aload_n dX12_feltMost_11 rfl rfl ?_
      obtain ⟨a_2, ra_2, hf⟩ := z_rd_some hf
      refine zgR fl_X12_7 h0 (fun _ => rfl) ra_2 dX12_feltMost_12 (fun ha_2 => ?_)
      refine z_iload_n dX12_feltMost_15 rfl rfl ?_
      refine z_iload_n dX12_feltMost_16 rfl rfl ?_
      obtain ⟨v_3, M_4, c_5, hf⟩ := z_call_some hf
      refine z_cSi (t_X12_felt  c_5) kw_X12_felt lk_X12_94 rfl (by decide) rfl (Nat.le_of_ble_eq_true rfl) ⟨Nat.le_refl 0, Nat.le_refl 0⟩ dX12_feltMost_17 ?_
      obtain ⟨g_6, hf⟩ := z_ifs hf
      refine z_iald ha_2 g_6 rfl dX12_feltMost_20 ?_
      refine z_if_le (tgt := 55) dX12_feltMost_21 (by decide) (fun q_7 => ?_) (fun q_7 => ?_)
      · have hf := (if_pos q_7).symm.trans hf
        exact t_X12_feltMost_55 h0 ih hf
      · have hf := (if_neg q_7).symm.trans hf
        refine z_iload_n dX12_feltMost_24 rfl rfl ?_
        refine z_bipush (v := (-2)) dX12_feltMost_25 (by decide) ?_
        refine z_icmp_eq (tgt := 53) dX12_feltMost_27 (by decide) (fun q_8 => ?_) (fun q_8 => ?_)
        · have hf := (if_pos q_8).symm.trans hf
          refine zA.pick [(0, .ref x0), (1, .int x1), (3, .int x3)] [0, 1, 3] rfl ?_
          exact t_X12_feltMost_53 h0 ih hf
        · have hf := (if_neg q_8).symm.trans hf
          refine z_aload_n dX12_feltMost_30 rfl rfl ?_
          obtain ⟨a_9, ra_9, hf⟩ := z_rd_some hf
          refine zgR fl_X12_7 h0 (fun _ => rfl) ra_9 dX12_feltMost_31 (fun ha_9 => ?_)
          refine z_iload_n dX12_feltMost_34 rfl rfl ?_
          refine z_iload_n dX12_feltMost_35 rfl rfl ?_
          obtain ⟨v_10, M_11, c_12, hf⟩ := z_call_some hf
          refine z_cSi (t_X12_felt  c_12) kw_X12_felt lk_X12_94 rfl (by decide) rfl (Nat.le_of_ble_eq_true rfl) ⟨Nat.le_refl 0, Nat.le_refl 0⟩ dX12_feltMost_36 ?_
          obtain ⟨g_13, hf⟩ := z_ifs hf
          refine z_iald ha_9 g_13 rfl dX12_feltMost_39 ?_
          refine z_aload_n dX12_feltMost_40 rfl rfl ?_
          obtain ⟨a_14, ra_14, hf⟩ := z_rd_some hf
          refine zgR fl_X12_7 h0 (fun _ => rfl) ra_14 dX12_feltMost_41 (fun ha_14 => ?_)
          refine z_iload_n dX12_feltMost_44 rfl rfl ?_
          refine z_iload_n dX12_feltMost_45 rfl rfl ?_
          obtain ⟨v_15, M_16, c_17, hf⟩ := z_call_some hf
          refine z_cSi (t_X12_felt  c_17) kw_X12_felt lk_X12_94 rfl (by decide) rfl (Nat.le_of_ble_eq_true rfl) ⟨Nat.le_refl 0, Nat.le_refl 0⟩ dX12_feltMost_46 ?_
          obtain ⟨g_18, hf⟩ := z_ifs hf
          refine z_iald ha_14 g_18 rfl dX12_feltMost_49 ?_
          refine z_icmp_le (tgt := 55) dX12_feltMost_50 (by decide) (fun q_19 => ?_) (fun q_19 => ?_)
          · have hf := (if_pos q_19).symm.trans hf
            exact t_X12_feltMost_55 h0 ih hf
          · have hf := (if_neg q_19).symm.trans hf
            refine zA.pick [(0, .ref x0), (1, .int x1), (3, .int x3)] [0, 1, 3] rfl ?_
            exact t_X12_feltMost_53 h0 ih hf
noncomputable def f_X12_feltMost (x0 : Nat) (x1 : Int32) (M : zM) : Option (Int32 × zM) :=
  (f_X12_feltMost_5 x0 x1 zF (-2) 0 M)
set_option maxHeartbeats 2000000 in
set_option maxRecDepth 20000 in
theorem t_X12_feltMost {l : Launch} {x0 : Nat} {x1 : Int32} {M MO : zM} {v : Int32} (h0 : z_tm SH 11 x0) (hf : f_X12_feltMost x0 x1 M = some (v, MO)) : zMet l yX12_feltMost cX12_feltMost 4 (some .int) 2 0 0 [.ref x0, .int x1] SH M (zDi SH v MO) := by
  refine zMet.of (by decide +kernel) (Nat.le_of_ble_eq_true rfl) (Or.inr (Or.inl rfl)) ?_
  show zA l yX12_feltMost cX12_feltMost 4 (some .int) 2 0 0 SH.length (zDi SH v MO) 0 0 0 [(0, .ref x0), (1, .int x1)] [] SH M
  unfold f_X12_feltMost at hf
  refine z_bipush (v := (-2)) dX12_feltMost_0 (by decide) ?_
  refine z_istore_n' (lv' := [(2, .int (-2)), (0, .ref x0), (1, .int x1)]) rfl dX12_feltMost_2 (by decide) rfl rfl ?_
  refine z_iconst (v := 0) dX12_feltMost_3 (by decide) ?_
  refine z_istore_n' (lv' := [(3, .int 0), (2, .int (-2)), (0, .ref x0), (1, .int x1)]) rfl dX12_feltMost_4 (by decide) rfl rfl ?_
  refine zA.pick [(0, .ref x0), (1, .int x1), (2, .int (-2)), (3, .int 0)] [2, 3, 1, 0] rfl ?_
  exact t_X12_feltMost_5 h0 zF (-2) 0 M hf
noncomputable def f_X12_roomIs (x0 : Nat) (x1 : Int32) (x2 : Int32) (M : zM) : Option (Int32 × zM) :=
  z_call (f_X12_isRoom x1 M) fun v_1 M_2 => (if v_1 = 0 then some ((-1), M_2) else z_call (f_X12_feltMost x0 x1 M_2) fun v_5 M_6 => (if x2 = 0 then z_rd (M_6.2.1 x0 0) fun a_9 => if z_ix (0 + x1) (z_ln SH a_9) = true then (if (M_6.1 a_9 ((0 + x1) : Int32).toNatClampNeg) = 1 then z_rd (M_6.2.1 x0 0) fun a_12 => if z_ix (24 + x1) (z_ln SH a_12) = true then some ((M_6.1 a_12 ((24 + x1) : Int32).toNatClampNeg), M_6) else none else some ((-2), M_6)) else none else if x2 = 1 then z_rd (M_6.2.1 x0 0) fun a_15 => if z_ix (0 + x1) (z_ln SH a_15) = true then some ((M_6.1 a_15 ((0 + x1) : Int32).toNatClampNeg), M_6) else none else if x2 = 2 then z_rd (M_6.2.1 x0 0) fun a_18 => if z_ix (48 + x1) (z_ln SH a_18) = true then some ((M_6.1 a_18 ((48 + x1) : Int32).toNatClampNeg), M_6) else none else if x2 = 3 then z_rd (M_6.2.1 x0 0) fun a_21 => if z_ix (72 + x1) (z_ln SH a_21) = true then some ((M_6.1 a_21 ((72 + x1) : Int32).toNatClampNeg), M_6) else none else if x2 = 4 then z_rd (M_6.2.1 x0 0) fun a_24 => if z_ix (96 + x1) (z_ln SH a_24) = true then some ((M_6.1 a_24 ((96 + x1) : Int32).toNatClampNeg), M_6) else none else if x2 = 5 then z_call (f_X12_feltIn x0 x1 M_6) fun v_27 M_28 => some (v_27, M_28) else if x2 = 6 then (if v_5 = (-2) then some (0, M_6) else z_rd (M_6.2.1 x0 0) fun a_32 => z_call (f_X12_felt x1 v_5 M_6) fun v_33 M_34 => if z_ix v_33 (z_ln SH a_32) = true then some ((M_34.1 a_32 (v_33 : Int32).toNatClampNeg), M_34) else none) else if x2 = 7 then some (v_5, M_6) else some ((-1), M_6)))
set_option maxHeartbeats 2000000 in
set_option maxRecDepth 20000 in
theorem t_X12_roomIs {l : Launch} {x0 : Nat} {x1 : Int32} {x2 : Int32} {M MO : zM} {v : Int32} (h0 : z_tm SH 11 x0) (hf : f_X12_roomIs x0 x1 x2 M = some (v, MO)) : zMet l yX12_roomIs cX12_roomIs 4 (some .int) 3 0 0 [.ref x0, .int x1, .int x2] SH M (zDi SH v MO) := by
  refine zMet.of (by decide +kernel) (Nat.le_of_ble_eq_true rfl) (Or.inr (Or.inl rfl)) ?_
  show zA l yX12_roomIs cX12_roomIs 4 (some .int) 3 0 0 SH.length (zDi SH v MO) 0 0 0 [(0, .ref x0), (1, .int x1), (2, .int x2)] [] SH M
  unfold f_X12_roomIs at hf
  refine z_iload_n dX12_roomIs_0 rfl rfl ?_
  obtain ⟨v_1, M_2, c_3, hf⟩ := z_call_some hf
  refine z_cSi (t_X12_isRoom  c_3) kw_X12_isRoom lk_X12_107 rfl (by decide) rfl (Nat.le_of_ble_eq_true rfl) ⟨Nat.le_refl 0, Nat.le_refl 0⟩ dX12_roomIs_1 ?_
  refine z_if_ne (tgt := 9) dX12_roomIs_4 (by decide) (fun q_4 => ?_) (fun q_4 => ?_)
  · have hf := (if_neg q_4).symm.trans hf
    refine z_aload_n dX12_roomIs_9 rfl rfl ?_
    refine z_iload_n dX12_roomIs_10 rfl rfl ?_
    obtain ⟨v_5, M_6, c_7, hf⟩ := z_call_some hf
    refine z_cVi (t_X12_feltMost h0 c_7) kw_X12_feltMost lk_X12_294 h0 rfl (by decide) rfl (Nat.le_of_ble_eq_true rfl) ⟨Nat.le_refl 0, Nat.le_refl 0⟩ dX12_roomIs_11 ?_
    refine z_istore_n' (lv' := [(3, .int v_5), (0, .ref x0), (1, .int x1), (2, .int x2)]) rfl dX12_roomIs_14 (by decide) rfl rfl ?_
    refine z_iload_n dX12_roomIs_15 rfl rfl ?_
    by_cases q_8 : x2 = 0
    · have hf := (if_pos q_8).symm.trans hf
      refine z_tabIn (tgt := 64) (off := 48) dX12_roomIs_16 (by rw [q_8]; decide) (by rw [q_8]; decide) (by rw [q_8]; rfl) (by decide) ?_
      refine z_aload_n dX12_roomIs_64 rfl rfl ?_
      obtain ⟨a_9, ra_9, hf⟩ := z_rd_some hf
      refine zgR fl_X12_7 h0 (fun _ => rfl) ra_9 dX12_roomIs_65 (fun ha_9 => ?_)
      refine z_iconst (v := 0) dX12_roomIs_68 (by decide) ?_
      refine z_iload_n dX12_roomIs_69 rfl rfl ?_
      refine z_iadd dX12_roomIs_70 ?_
      obtain ⟨g_10, hf⟩ := z_ifs hf
      refine z_iald ha_9 g_10 rfl dX12_roomIs_71 ?_
      refine z_iconst (v := 1) dX12_roomIs_72 (by decide) ?_
      refine z_icmp_ne (tgt := 88) dX12_roomIs_73 (by decide) (fun q_11 => ?_) (fun q_11 => ?_)
      · have hf := (if_neg q_11).symm.trans hf
        refine z_bipush (v := (-2)) dX12_roomIs_88 (by decide) ?_
        obtain ⟨rfl, rfl⟩ := z_end hf
        exact z_iret ⟨rfl, rfl, rfl⟩ (Or.inl rfl) dX12_roomIs_90
      · have hf := (if_pos q_11).symm.trans hf
        refine z_aload_n dX12_roomIs_76 rfl rfl ?_
        obtain ⟨a_12, ra_12, hf⟩ := z_rd_some hf
        refine zgR fl_X12_7 h0 (fun _ => rfl) ra_12 dX12_roomIs_77 (fun ha_12 => ?_)
        refine z_bipush (v := 24) dX12_roomIs_80 (by decide) ?_
        refine z_iload_n dX12_roomIs_82 rfl rfl ?_
        refine z_iadd dX12_roomIs_83 ?_
        obtain ⟨g_13, hf⟩ := z_ifs hf
        refine z_iald ha_12 g_13 rfl dX12_roomIs_84 ?_
        refine z_goto (tgt := 90) dX12_roomIs_85 (by decide) ?_
        obtain ⟨rfl, rfl⟩ := z_end hf
        exact z_iret ⟨rfl, rfl, rfl⟩ (Or.inl rfl) dX12_roomIs_90
    have hf := (if_neg q_8).symm.trans hf
    by_cases q_14 : x2 = 1
    · have hf := (if_pos q_14).symm.trans hf
      refine z_tabIn (tgt := 91) (off := 75) dX12_roomIs_16 (by rw [q_14]; decide) (by rw [q_14]; decide) (by rw [q_14]; rfl) (by decide) ?_
      refine z_aload_n dX12_roomIs_91 rfl rfl ?_
      obtain ⟨a_15, ra_15, hf⟩ := z_rd_some hf
      refine zgR fl_X12_7 h0 (fun _ => rfl) ra_15 dX12_roomIs_92 (fun ha_15 => ?_)
      refine z_iconst (v := 0) dX12_roomIs_95 (by decide) ?_
      refine z_iload_n dX12_roomIs_96 rfl rfl ?_
      refine z_iadd dX12_roomIs_97 ?_
      obtain ⟨g_16, hf⟩ := z_ifs hf
      refine z_iald ha_15 g_16 rfl dX12_roomIs_98 ?_
      obtain ⟨rfl, rfl⟩ := z_end hf
      exact z_iret ⟨rfl, rfl, rfl⟩ (Or.inl rfl) dX12_roomIs_99
    have hf := (if_neg q_14).symm.trans hf
    by_cases q_17 : x2 = 2
    · have hf := (if_pos q_17).symm.trans hf
      refine z_tabIn (tgt := 100) (off := 84) dX12_roomIs_16 (by rw [q_17]; decide) (by rw [q_17]; decide) (by rw [q_17]; rfl) (by decide) ?_
      refine z_aload_n dX12_roomIs_100 rfl rfl ?_
      obtain ⟨a_18, ra_18, hf⟩ := z_rd_some hf
      refine zgR fl_X12_7 h0 (fun _ => rfl) ra_18 dX12_roomIs_101 (fun ha_18 => ?_)
      refine z_bipush (v := 48) dX12_roomIs_104 (by decide) ?_
      refine z_iload_n dX12_roomIs_106 rfl rfl ?_
      refine z_iadd dX12_roomIs_107 ?_
      obtain ⟨g_19, hf⟩ := z_ifs hf
      refine z_iald ha_18 g_19 rfl dX12_roomIs_108 ?_
      obtain ⟨rfl, rfl⟩ := z_end hf
      exact z_iret ⟨rfl, rfl, rfl⟩ (Or.inl rfl) dX12_roomIs_109
    have hf := (if_neg q_17).symm.trans hf
    by_cases q_20 : x2 = 3
    · have hf := (if_pos q_20).symm.trans hf
      refine z_tabIn (tgt := 110) (off := 94) dX12_roomIs_16 (by rw [q_20]; decide) (by rw [q_20]; decide) (by rw [q_20]; rfl) (by decide) ?_
      refine z_aload_n dX12_roomIs_110 rfl rfl ?_
      obtain ⟨a_21, ra_21, hf⟩ := z_rd_some hf
      refine zgR fl_X12_7 h0 (fun _ => rfl) ra_21 dX12_roomIs_111 (fun ha_21 => ?_)
      refine z_bipush (v := 72) dX12_roomIs_114 (by decide) ?_
      refine z_iload_n dX12_roomIs_116 rfl rfl ?_
      refine z_iadd dX12_roomIs_117 ?_
      obtain ⟨g_22, hf⟩ := z_ifs hf
      refine z_iald ha_21 g_22 rfl dX12_roomIs_118 ?_
      obtain ⟨rfl, rfl⟩ := z_end hf
      exact z_iret ⟨rfl, rfl, rfl⟩ (Or.inl rfl) dX12_roomIs_119
    have hf := (if_neg q_20).symm.trans hf
    by_cases q_23 : x2 = 4
    · have hf := (if_pos q_23).symm.trans hf
      refine z_tabIn (tgt := 120) (off := 104) dX12_roomIs_16 (by rw [q_23]; decide) (by rw [q_23]; decide) (by rw [q_23]; rfl) (by decide) ?_
      refine z_aload_n dX12_roomIs_120 rfl rfl ?_
      obtain ⟨a_24, ra_24, hf⟩ := z_rd_some hf
      refine zgR fl_X12_7 h0 (fun _ => rfl) ra_24 dX12_roomIs_121 (fun ha_24 => ?_)
      refine z_bipush (v := 96) dX12_roomIs_124 (by decide) ?_
      refine z_iload_n dX12_roomIs_126 rfl rfl ?_
      refine z_iadd dX12_roomIs_127 ?_
      obtain ⟨g_25, hf⟩ := z_ifs hf
      refine z_iald ha_24 g_25 rfl dX12_roomIs_128 ?_
      obtain ⟨rfl, rfl⟩ := z_end hf
      exact z_iret ⟨rfl, rfl, rfl⟩ (Or.inl rfl) dX12_roomIs_129
    have hf := (if_neg q_23).symm.trans hf
    by_cases q_26 : x2 = 5
    · have hf := (if_pos q_26).symm.trans hf
      refine z_tabIn (tgt := 130) (off := 114) dX12_roomIs_16 (by rw [q_26]; decide) (by rw [q_26]; decide) (by rw [q_26]; rfl) (by decide) ?_
      refine z_aload_n dX12_roomIs_130 rfl rfl ?_
      refine z_iload_n dX12_roomIs_131 rfl rfl ?_
      obtain ⟨v_27, M_28, c_29, hf⟩ := z_call_some hf
      refine z_cVi (t_X12_feltIn h0 c_29) kw_X12_feltIn lk_X12_227 h0 rfl (by decide) rfl (Nat.le_of_ble_eq_true rfl) ⟨Nat.le_refl 0, Nat.le_refl 0⟩ dX12_roomIs_132 ?_
      obtain ⟨rfl, rfl⟩ := z_end hf
      exact z_iret ⟨rfl, rfl, rfl⟩ (Or.inl rfl) dX12_roomIs_135
    have hf := (if_neg q_26).symm.trans hf
    by_cases q_30 : x2 = 6
    · have hf := (if_pos q_30).symm.trans hf
      refine z_tabIn (tgt := 136) (off := 120) dX12_roomIs_16 (by rw [q_30]; decide) (by rw [q_30]; decide) (by rw [q_30]; rfl) (by decide) ?_
      refine z_iload_n dX12_roomIs_136 rfl rfl ?_
      refine z_bipush (v := (-2)) dX12_roomIs_137 (by decide) ?_
      refine z_icmp_ne (tgt := 146) dX12_roomIs_139 (by decide) (fun q_31 => ?_) (fun q_31 => ?_)
      · have hf := (if_neg q_31).symm.trans hf
        refine z_aload_n dX12_roomIs_146 rfl rfl ?_
        obtain ⟨a_32, ra_32, hf⟩ := z_rd_some hf
        refine zgR fl_X12_7 h0 (fun _ => rfl) ra_32 dX12_roomIs_147 (fun ha_32 => ?_)
        refine z_iload_n dX12_roomIs_150 rfl rfl ?_
        refine z_iload_n dX12_roomIs_151 rfl rfl ?_
        obtain ⟨v_33, M_34, c_35, hf⟩ := z_call_some hf
        refine z_cSi (t_X12_felt  c_35) kw_X12_felt lk_X12_94 rfl (by decide) rfl (Nat.le_of_ble_eq_true rfl) ⟨Nat.le_refl 0, Nat.le_refl 0⟩ dX12_roomIs_152 ?_
        obtain ⟨g_36, hf⟩ := z_ifs hf
        refine z_iald ha_32 g_36 rfl dX12_roomIs_155 ?_
        obtain ⟨rfl, rfl⟩ := z_end hf
        exact z_iret ⟨rfl, rfl, rfl⟩ (Or.inl rfl) dX12_roomIs_156
      · have hf := (if_pos q_31).symm.trans hf
        refine z_iconst (v := 0) dX12_roomIs_142 (by decide) ?_
        refine z_goto (tgt := 156) dX12_roomIs_143 (by decide) ?_
        obtain ⟨rfl, rfl⟩ := z_end hf
        exact z_iret ⟨rfl, rfl, rfl⟩ (Or.inl rfl) dX12_roomIs_156
    have hf := (if_neg q_30).symm.trans hf
    by_cases q_37 : x2 = 7
    · have hf := (if_pos q_37).symm.trans hf
      refine z_tabIn (tgt := 157) (off := 141) dX12_roomIs_16 (by rw [q_37]; decide) (by rw [q_37]; decide) (by rw [q_37]; rfl) (by decide) ?_
      refine z_iload_n dX12_roomIs_157 rfl rfl ?_
      obtain ⟨rfl, rfl⟩ := z_end hf
      exact z_iret ⟨rfl, rfl, rfl⟩ (Or.inl rfl) dX12_roomIs_158
    have hf := (if_neg q_37).symm.trans hf
    refine z_tabD (tgt := 159) dX12_roomIs_16 [0, 1, 2, 3, 4, 5, 6, 7] (List.forall_mem_cons.mpr ⟨lv_neT q_8 (by decide), (List.forall_mem_cons.mpr ⟨lv_neT q_14 (by decide), (List.forall_mem_cons.mpr ⟨lv_neT q_17 (by decide), (List.forall_mem_cons.mpr ⟨lv_neT q_20 (by decide), (List.forall_mem_cons.mpr ⟨lv_neT q_23 (by decide), (List.forall_mem_cons.mpr ⟨lv_neT q_26 (by decide), (List.forall_mem_cons.mpr ⟨lv_neT q_30 (by decide), (List.forall_mem_cons.mpr ⟨lv_neT q_37 (by decide), (fun _ h => absurd h List.not_mem_nil)⟩)⟩)⟩)⟩)⟩)⟩)⟩)⟩) (by decide) (by decide) ?_
    refine z_iconst (v := (-1)) dX12_roomIs_159 (by decide) ?_
    obtain ⟨rfl, rfl⟩ := z_end hf
    exact z_iret ⟨rfl, rfl, rfl⟩ (Or.inl rfl) dX12_roomIs_160
  · have hf := (if_pos q_4).symm.trans hf
    refine z_iconst (v := (-1)) dX12_roomIs_7 (by decide) ?_
    obtain ⟨rfl, rfl⟩ := z_end hf
    exact z_iret ⟨rfl, rfl, rfl⟩ (Or.inl rfl) dX12_roomIs_8
noncomputable def f_X12_feels (x0 : Nat) (x1 : Int32) (x2 : Int32) (M : zM) : Option (Int32 × zM) :=
  z_call (f_X12_isRoom x1 M) fun v_1 M_2 => (if v_1 = 0 then some ((-1), M_2) else z_call (f_X12_isRoom x2 M_2) fun v_5 M_6 => (if v_5 = 0 then some ((-1), M_6) else z_rd (M_6.2.1 x0 0) fun a_9 => z_call (f_X12_felt x1 x2 M_6) fun v_10 M_11 => if z_ix v_10 (z_ln SH a_9) = true then some ((M_11.1 a_9 (v_10 : Int32).toNatClampNeg), M_11) else none))
set_option maxHeartbeats 2000000 in
set_option maxRecDepth 20000 in
theorem t_X12_feels {l : Launch} {x0 : Nat} {x1 : Int32} {x2 : Int32} {M MO : zM} {v : Int32} (h0 : z_tm SH 11 x0) (hf : f_X12_feels x0 x1 x2 M = some (v, MO)) : zMet l yX12_feels cX12_feels 3 (some .int) 3 0 0 [.ref x0, .int x1, .int x2] SH M (zDi SH v MO) := by
  refine zMet.of (by decide +kernel) (Nat.le_of_ble_eq_true rfl) (Or.inr (Or.inl rfl)) ?_
  show zA l yX12_feels cX12_feels 3 (some .int) 3 0 0 SH.length (zDi SH v MO) 0 0 0 [(0, .ref x0), (1, .int x1), (2, .int x2)] [] SH M
  unfold f_X12_feels at hf
  refine z_iload_n dX12_feels_0 rfl rfl ?_
  obtain ⟨v_1, M_2, c_3, hf⟩ := z_call_some hf
  refine z_cSi (t_X12_isRoom  c_3) kw_X12_isRoom lk_X12_107 rfl (by decide) rfl (Nat.le_of_ble_eq_true rfl) ⟨Nat.le_refl 0, Nat.le_refl 0⟩ dX12_feels_1 ?_
  refine z_if_eq (tgt := 27) dX12_feels_4 (by decide) (fun q_4 => ?_) (fun q_4 => ?_)
  · have hf := (if_pos q_4).symm.trans hf
    refine z_iconst (v := (-1)) dX12_feels_27 (by decide) ?_
    obtain ⟨rfl, rfl⟩ := z_end hf
    exact z_iret ⟨rfl, rfl, rfl⟩ (Or.inl rfl) dX12_feels_28
  · have hf := (if_neg q_4).symm.trans hf
    refine z_iload_n dX12_feels_7 rfl rfl ?_
    obtain ⟨v_5, M_6, c_7, hf⟩ := z_call_some hf
    refine z_cSi (t_X12_isRoom  c_7) kw_X12_isRoom lk_X12_107 rfl (by decide) rfl (Nat.le_of_ble_eq_true rfl) ⟨Nat.le_refl 0, Nat.le_refl 0⟩ dX12_feels_8 ?_
    refine z_if_eq (tgt := 27) dX12_feels_11 (by decide) (fun q_8 => ?_) (fun q_8 => ?_)
    · have hf := (if_pos q_8).symm.trans hf
      refine z_iconst (v := (-1)) dX12_feels_27 (by decide) ?_
      obtain ⟨rfl, rfl⟩ := z_end hf
      exact z_iret ⟨rfl, rfl, rfl⟩ (Or.inl rfl) dX12_feels_28
    · have hf := (if_neg q_8).symm.trans hf
      refine z_aload_n dX12_feels_14 rfl rfl ?_
      obtain ⟨a_9, ra_9, hf⟩ := z_rd_some hf
      refine zgR fl_X12_7 h0 (fun _ => rfl) ra_9 dX12_feels_15 (fun ha_9 => ?_)
      refine z_iload_n dX12_feels_18 rfl rfl ?_
      refine z_iload_n dX12_feels_19 rfl rfl ?_
      obtain ⟨v_10, M_11, c_12, hf⟩ := z_call_some hf
      refine z_cSi (t_X12_felt  c_12) kw_X12_felt lk_X12_94 rfl (by decide) rfl (Nat.le_of_ble_eq_true rfl) ⟨Nat.le_refl 0, Nat.le_refl 0⟩ dX12_feels_20 ?_
      obtain ⟨g_13, hf⟩ := z_ifs hf
      refine z_iald ha_9 g_13 rfl dX12_feels_23 ?_
      refine z_goto (tgt := 28) dX12_feels_24 (by decide) ?_
      obtain ⟨rfl, rfl⟩ := z_end hf
      exact z_iret ⟨rfl, rfl, rfl⟩ (Or.inl rfl) dX12_feels_28
noncomputable def f_X12_way_30 (x0 : Nat) (x2 : Int32) : Nat → Int32 → Int32 → zM → Option (Int32 × zM)
  | 0, _, _, _ => none
  | n + 1, x3, x4, M =>
    (if x2 < x4 then some (x3, M) else z_call (f_X12_above x0 x3 M) fun v_2 M_3 => zl (x4 + 1) fun x4_5 => (f_X12_way_30 x0 x2 n v_2 x4_5 M_3))
set_option maxHeartbeats 2000000 in
set_option maxRecDepth 20000 in
theorem t_X12_way_30 {l : Launch} {x0 : Nat} {x2 : Int32} {MO : zM} {v : Int32} (h0 : z_tm SH 11 x0) : ∀ (n : Nat) (x3 : Int32) (x4 : Int32) (M : zM), f_X12_way_30 x0 x2 n x3 x4 M = some (v, MO) → zA l yX12_way cX12_way 5 (some .int) 4 0 0 SH.length (zDi SH v MO) 0 0 30 [(0, .ref x0), (2, .int x2), (3, .int x3), (4, .int x4)] [] SH M := by
  intro n
  induction n with
  | zero =>
    intro x3 x4 M hf
    rw [f_X12_way_30] at hf
    cases hf
  | succ n ih =>
    intro x3 x4 M hf
    rw [f_X12_way_30] at hf
    refine z_iload dX12_way_30 rfl ?_
    refine z_iload_n dX12_way_32 rfl rfl ?_
    refine z_icmp_gt (tgt := 48) dX12_way_33 (by decide) (fun q_1 => ?_) (fun q_1 => ?_)
    · have hf := (if_pos q_1).symm.trans hf
      refine z_iload_n dX12_way_48 rfl rfl ?_
      obtain ⟨rfl, rfl⟩ := z_end hf
      exact z_iret ⟨rfl, rfl, rfl⟩ (Or.inl rfl) dX12_way_49
    · have hf := (if_neg q_1).symm.trans hf
      refine z_aload_n dX12_way_36 rfl rfl ?_
      refine z_iload_n dX12_way_37 rfl rfl ?_
      obtain ⟨v_2, M_3, c_4, hf⟩ := z_call_some hf
      refine z_cVi (t_X12_above h0 c_4) kw_X12_above lk_X12_255 h0 rfl (by decide) rfl (Nat.le_of_ble_eq_true rfl) ⟨Nat.le_refl 0, Nat.le_refl 0⟩ dX12_way_38 ?_
      refine z_istore_n' (lv' := [(3, .int v_2), (0, .ref x0), (2, .int x2), (4, .int x4)]) rfl dX12_way_41 (by decide) rfl rfl ?_
      obtain ⟨x4_5, ex4_5, hf⟩ := zl_some hf
      refine z_iinc' (lv' := [(4, .int x4_5), (3, .int v_2), (0, .ref x0), (2, .int x2)]) dX12_way_42 rfl (by decide) ex4_5 (by decide) rfl ?_
      refine z_goto (tgt := 30) dX12_way_45 (by decide) ?_
      refine zA.pick [(0, .ref x0), (2, .int x2), (3, .int v_2), (4, .int x4_5)] [2, 3, 1, 0] rfl ?_
      exact ih v_2 x4_5 M_3 hf
noncomputable def f_X12_way (x0 : Nat) (x1 : Int32) (x2 : Int32) (M : zM) : Option (Int32 × zM) :=
  z_call (f_X12_isRoom x1 M) fun v_1 M_2 => (if v_1 = 0 then some ((-1), M_2) else z_call (f_X12_in x2 0 (5 - (x1 / 4)) M_2) fun v_5 M_6 => (if v_5 = 0 then some ((-2), M_6) else (f_X12_way_30 x0 x2 zF x1 0 M_6)))
set_option maxHeartbeats 2000000 in
set_option maxRecDepth 20000 in
theorem t_X12_way {l : Launch} {x0 : Nat} {x1 : Int32} {x2 : Int32} {M MO : zM} {v : Int32} (h0 : z_tm SH 11 x0) (hf : f_X12_way x0 x1 x2 M = some (v, MO)) : zMet l yX12_way cX12_way 5 (some .int) 4 0 0 [.ref x0, .int x1, .int x2] SH M (zDi SH v MO) := by
  refine zMet.of (by decide +kernel) (Nat.le_of_ble_eq_true rfl) (Or.inr (Or.inl rfl)) ?_
  show zA l yX12_way cX12_way 5 (some .int) 4 0 0 SH.length (zDi SH v MO) 0 0 0 [(0, .ref x0), (1, .int x1), (2, .int x2)] [] SH M
  unfold f_X12_way at hf
  refine z_iload_n dX12_way_0 rfl rfl ?_
  obtain ⟨v_1, M_2, c_3, hf⟩ := z_call_some hf
  refine z_cSi (t_X12_isRoom  c_3) kw_X12_isRoom lk_X12_107 rfl (by decide) rfl (Nat.le_of_ble_eq_true rfl) ⟨Nat.le_refl 0, Nat.le_refl 0⟩ dX12_way_1 ?_
  refine z_if_ne (tgt := 9) dX12_way_4 (by decide) (fun q_4 => ?_) (fun q_4 => ?_)
  · have hf := (if_neg q_4).symm.trans hf
    refine z_iload_n dX12_way_9 rfl rfl ?_
    refine z_iconst (v := 0) dX12_way_10 (by decide) ?_
    refine z_iconst (v := 5) dX12_way_11 (by decide) ?_
    refine z_iload_n dX12_way_12 rfl rfl ?_
    refine z_iconst (v := 4) dX12_way_13 (by decide) ?_
    refine z_idiv dX12_way_14 (by decide) ?_
    refine z_isub dX12_way_15 ?_
    obtain ⟨v_5, M_6, c_7, hf⟩ := z_call_some hf
    refine z_cSi (t_X12_in  c_7) kw_X12_in lk_X12_90 rfl (by decide) rfl (Nat.le_of_ble_eq_true rfl) ⟨Nat.le_refl 0, Nat.le_refl 0⟩ dX12_way_16 ?_
    refine z_if_ne (tgt := 25) dX12_way_19 (by decide) (fun q_8 => ?_) (fun q_8 => ?_)
    · have hf := (if_neg q_8).symm.trans hf
      refine z_iload_n dX12_way_25 rfl rfl ?_
      refine z_istore_n' (lv' := [(3, .int x1), (0, .ref x0), (1, .int x1), (2, .int x2)]) rfl dX12_way_26 (by decide) rfl rfl ?_
      refine z_iconst (v := 0) dX12_way_27 (by decide) ?_
      refine z_istore' (lv' := [(4, .int 0), (3, .int x1), (0, .ref x0), (1, .int x1), (2, .int x2)]) dX12_way_28 (by decide) rfl rfl ?_
      refine zA.pick [(0, .ref x0), (2, .int x2), (3, .int x1), (4, .int 0)] [2, 4, 1, 0] rfl ?_
      exact t_X12_way_30 h0 zF x1 0 M_6 hf
    · have hf := (if_pos q_8).symm.trans hf
      refine z_bipush (v := (-2)) dX12_way_22 (by decide) ?_
      obtain ⟨rfl, rfl⟩ := z_end hf
      exact z_iret ⟨rfl, rfl, rfl⟩ (Or.inl rfl) dX12_way_24
  · have hf := (if_pos q_4).symm.trans hf
    refine z_iconst (v := (-1)) dX12_way_7 (by decide) ?_
    obtain ⟨rfl, rfl⟩ := z_end hf
    exact z_iret ⟨rfl, rfl, rfl⟩ (Or.inl rfl) dX12_way_8
noncomputable def f_X12_gcd_4 : Nat → Int32 → Int32 → zM → Option (Int32 × zM)
  | 0, _, _, _ => none
  | n + 1, x2, x3, M =>
    (if x3 = 0 then some (x2, M) else if ¬ ((x3 : Int32) = 0) then zl ((x2 - x2 / x3 * x3)) fun x4_3 => (f_X12_gcd_4 n x3 x4_3 M) else none)
set_option maxHeartbeats 2000000 in
set_option maxRecDepth 20000 in
theorem t_X12_gcd_4 {l : Launch} {MO : zM} {v : Int32} : ∀ (n : Nat) (x2 : Int32) (x3 : Int32) (M : zM), f_X12_gcd_4  n x2 x3 M = some (v, MO) → zA l yX12_gcd cX12_gcd 5 (some .int) 1 0 0 SH.length (zDi SH v MO) 0 0 4 [(2, .int x2), (3, .int x3)] [] SH M := by
  intro n
  induction n with
  | zero =>
    intro x2 x3 M hf
    rw [f_X12_gcd_4] at hf
    cases hf
  | succ n ih =>
    intro x2 x3 M hf
    rw [f_X12_gcd_4] at hf
    refine z_iload_n dX12_gcd_4 rfl rfl ?_
    refine z_if_eq (tgt := 21) dX12_gcd_5 (by decide) (fun q_1 => ?_) (fun q_1 => ?_)
    · have hf := (if_pos q_1).symm.trans hf
      refine z_iload_n dX12_gcd_21 rfl rfl ?_
      obtain ⟨rfl, rfl⟩ := z_end hf
      exact z_iret ⟨rfl, rfl, rfl⟩ (Or.inl rfl) dX12_gcd_22
    · have hf := (if_neg q_1).symm.trans hf
      refine z_iload_n dX12_gcd_8 rfl rfl ?_
      refine z_iload_n dX12_gcd_9 rfl rfl ?_
      obtain ⟨g_2, hf⟩ := z_ifs hf
      refine z_irem dX12_gcd_10 g_2 ?_
      obtain ⟨x4_3, ex4_3, hf⟩ := zl_some hf
      refine z_istore' (lv' := [(4, .int x4_3), (2, .int x2), (3, .int x3)]) dX12_gcd_11 (by decide) ex4_3 rfl ?_
      refine z_iload_n dX12_gcd_13 rfl rfl ?_
      refine z_istore_n' (lv' := [(2, .int x3), (4, .int x4_3), (3, .int x3)]) rfl dX12_gcd_14 (by decide) rfl rfl ?_
      refine z_iload dX12_gcd_15 rfl ?_
      refine z_istore_n' (lv' := [(3, .int x4_3), (2, .int x3), (4, .int x4_3)]) rfl dX12_gcd_17 (by decide) rfl rfl ?_
      refine z_goto (tgt := 4) dX12_gcd_18 (by decide) ?_
      refine zA.pick [(2, .int x3), (3, .int x4_3)] [1, 0] rfl ?_
      exact ih x3 x4_3 M hf
noncomputable def f_X12_gcd (x0 : Int32) (x1 : Int32) (M : zM) : Option (Int32 × zM) :=
  (f_X12_gcd_4 zF x0 x1 M)
set_option maxHeartbeats 2000000 in
set_option maxRecDepth 20000 in
theorem t_X12_gcd {l : Launch} {x0 : Int32} {x1 : Int32} {M MO : zM} {v : Int32} (hf : f_X12_gcd x0 x1 M = some (v, MO)) : zMet l yX12_gcd cX12_gcd 5 (some .int) 1 0 0 [.int x0, .int x1] SH M (zDi SH v MO) := by
  refine zMet.of (by decide +kernel) (Nat.le_of_ble_eq_true rfl) (Or.inr (Or.inl rfl)) ?_
  show zA l yX12_gcd cX12_gcd 5 (some .int) 1 0 0 SH.length (zDi SH v MO) 0 0 0 [(0, .int x0), (1, .int x1)] [] SH M
  unfold f_X12_gcd at hf
  refine z_iload_n dX12_gcd_0 rfl rfl ?_
  refine z_istore_n' (lv' := [(2, .int x0), (0, .int x0), (1, .int x1)]) rfl dX12_gcd_1 (by decide) rfl rfl ?_
  refine z_iload_n dX12_gcd_2 rfl rfl ?_
  refine z_istore_n' (lv' := [(3, .int x1), (2, .int x0), (0, .int x0), (1, .int x1)]) rfl dX12_gcd_3 (by decide) rfl rfl ?_
  refine zA.pick [(2, .int x0), (3, .int x1)] [1, 0] rfl ?_
  exact t_X12_gcd_4 zF x0 x1 M hf
noncomputable def f_X12_odds_147 (x4 : Int32) (x5 : Int32) (x6 : Int32) (M : zM) : Option (Int32 × zM) :=
  z_call (f_X12_gcd x6 x5 M) fun v_1 M_2 => (if x4 = 0 then if ¬ ((v_1 : Int32) = 0) then some ((x5 / v_1), M_2) else none else if ¬ ((v_1 : Int32) = 0) then some ((x6 / v_1), M_2) else none)
set_option maxHeartbeats 2000000 in
set_option maxRecDepth 20000 in
theorem t_X12_odds_147 {l : Launch} {x4 : Int32} {x5 : Int32} {x6 : Int32} {M MO : zM} {v : Int32} (hf : f_X12_odds_147 x4 x5 x6 M = some (v, MO)) : zA l yX12_odds cX12_odds 9 (some .int) 4 0 0 SH.length (zDi SH v MO) 0 0 147 [(4, .int x4), (5, .int x5), (6, .int x6)] [] SH M := by
  unfold f_X12_odds_147 at hf
  refine z_iload dX12_odds_147 rfl ?_
  refine z_iload dX12_odds_149 rfl ?_
  obtain ⟨v_1, M_2, c_3, hf⟩ := z_call_some hf
  refine z_cSi (t_X12_gcd  c_3) kw_X12_gcd lk_X12_297 rfl (by decide) rfl (Nat.le_of_ble_eq_true rfl) ⟨Nat.le_refl 0, Nat.le_refl 0⟩ dX12_odds_151 ?_
  refine z_istore' (lv' := [(8, .int v_1), (4, .int x4), (5, .int x5), (6, .int x6)]) dX12_odds_154 (by decide) rfl rfl ?_
  refine z_iload dX12_odds_156 rfl ?_
  refine z_if_ne (tgt := 169) dX12_odds_158 (by decide) (fun q_4 => ?_) (fun q_4 => ?_)
  · have hf := (if_neg q_4).symm.trans hf
    refine z_iload dX12_odds_169 rfl ?_
    refine z_iload dX12_odds_171 rfl ?_
    obtain ⟨g_5, hf⟩ := z_ifs hf
    refine z_idiv dX12_odds_173 g_5 ?_
    obtain ⟨rfl, rfl⟩ := z_end hf
    exact z_iret ⟨rfl, rfl, rfl⟩ (Or.inl rfl) dX12_odds_174
  · have hf := (if_pos q_4).symm.trans hf
    refine z_iload dX12_odds_161 rfl ?_
    refine z_iload dX12_odds_163 rfl ?_
    obtain ⟨g_6, hf⟩ := z_ifs hf
    refine z_idiv dX12_odds_165 g_6 ?_
    refine z_goto (tgt := 174) dX12_odds_166 (by decide) ?_
    obtain ⟨rfl, rfl⟩ := z_end hf
    exact z_iret ⟨rfl, rfl, rfl⟩ (Or.inl rfl) dX12_odds_174
noncomputable def f_X12_odds_138 (x4 : Int32) (x6 : Int32) (s0 : Int32) (M : zM) : Option (Int32 × zM) :=
  zl ((x6 * 10)) fun x6_1 => (f_X12_odds_147 x4 s0 x6_1 M)
set_option maxHeartbeats 2000000 in
set_option maxRecDepth 20000 in
theorem t_X12_odds_138 {l : Launch} {x4 : Int32} {x6 : Int32} {s0 : Int32} {M MO : zM} {v : Int32} (hf : f_X12_odds_138 x4 x6 s0 M = some (v, MO)) : zA l yX12_odds cX12_odds 9 (some .int) 4 0 0 SH.length (zDi SH v MO) 0 0 138 [(4, .int x4), (6, .int x6)] [.int s0] SH M := by
  unfold f_X12_odds_138 at hf
  refine z_istore' (lv' := [(5, .int s0), (4, .int x4), (6, .int x6)]) dX12_odds_138 (by decide) rfl rfl ?_
  refine z_iload dX12_odds_140 rfl ?_
  refine z_bipush (v := 10) dX12_odds_142 (by decide) ?_
  refine z_imul dX12_odds_144 ?_
  obtain ⟨x6_1, ex6_1, hf⟩ := zl_some hf
  refine z_istore' (lv' := [(6, .int x6_1), (5, .int s0), (4, .int x4)]) dX12_odds_145 (by decide) ex6_1 rfl ?_
  refine zA.pick [(4, .int x4), (5, .int s0), (6, .int x6_1)] [2, 1, 0] rfl ?_
  exact t_X12_odds_147  hf
noncomputable def f_X12_odds_110 (x0 : Nat) (x2 : Int32) (x3 : Int32) (x4 : Int32) (x5 : Int32) (x6 : Int32) (x7 : Int32) (M : zM) : Option (Int32 × zM) :=
  (if x7 = x2 then (if x2 = 24 then (f_X12_odds_147 x4 x5 x6 M) else z_call (f_X12_takesIn x0 x2 M) fun v_3 M_4 => (if v_3 = 0 then (f_X12_odds_138 x4 x6 0 M_4) else (f_X12_odds_138 x4 x6 (x5 * x3) M_4))) else (f_X12_odds_147 x4 x5 x6 M))
set_option maxHeartbeats 2000000 in
set_option maxRecDepth 20000 in
theorem t_X12_odds_110 {l : Launch} {x0 : Nat} {x2 : Int32} {x3 : Int32} {x4 : Int32} {x5 : Int32} {x6 : Int32} {x7 : Int32} {M MO : zM} {v : Int32} (h0 : z_tm SH 11 x0) (hf : f_X12_odds_110 x0 x2 x3 x4 x5 x6 x7 M = some (v, MO)) : zA l yX12_odds cX12_odds 9 (some .int) 4 0 0 SH.length (zDi SH v MO) 0 0 110 [(0, .ref x0), (2, .int x2), (3, .int x3), (4, .int x4), (5, .int x5), (6, .int x6), (7, .int x7)] [] SH M := by
  unfold f_X12_odds_110 at hf
  refine z_iload dX12_odds_110 rfl ?_
  refine z_iload_n dX12_odds_112 rfl rfl ?_
  refine z_icmp_ne (tgt := 147) dX12_odds_113 (by decide) (fun q_1 => ?_) (fun q_1 => ?_)
  · have hf := (if_neg q_1).symm.trans hf
    refine zA.pick [(4, .int x4), (5, .int x5), (6, .int x6)] [3, 4, 5] rfl ?_
    exact t_X12_odds_147  hf
  · have hf := (if_pos q_1).symm.trans hf
    refine z_iload_n dX12_odds_116 rfl rfl ?_
    refine z_bipush (v := 24) dX12_odds_117 (by decide) ?_
    refine z_icmp_eq (tgt := 147) dX12_odds_119 (by decide) (fun q_2 => ?_) (fun q_2 => ?_)
    · have hf := (if_pos q_2).symm.trans hf
      refine zA.pick [(4, .int x4), (5, .int x5), (6, .int x6)] [3, 4, 5] rfl ?_
      exact t_X12_odds_147  hf
    · have hf := (if_neg q_2).symm.trans hf
      refine z_aload_n dX12_odds_122 rfl rfl ?_
      refine z_iload_n dX12_odds_123 rfl rfl ?_
      obtain ⟨v_3, M_4, c_5, hf⟩ := z_call_some hf
      refine z_cVi (t_X12_takesIn h0 c_5) kw_X12_takesIn lk_X12_268 h0 rfl (by decide) rfl (Nat.le_of_ble_eq_true rfl) ⟨Nat.le_refl 0, Nat.le_refl 0⟩ dX12_odds_124 ?_
      refine z_if_eq (tgt := 137) dX12_odds_127 (by decide) (fun q_6 => ?_) (fun q_6 => ?_)
      · have hf := (if_pos q_6).symm.trans hf
        refine z_iconst (v := 0) dX12_odds_137 (by decide) ?_
        refine zA.pick [(4, .int x4), (6, .int x6)] [3, 5] rfl ?_
        exact t_X12_odds_138  hf
      · have hf := (if_neg q_6).symm.trans hf
        refine z_iload dX12_odds_130 rfl ?_
        refine z_iload_n dX12_odds_132 rfl rfl ?_
        refine z_imul dX12_odds_133 ?_
        refine z_goto (tgt := 138) dX12_odds_134 (by decide) ?_
        refine zA.pick [(4, .int x4), (6, .int x6)] [3, 5] rfl ?_
        exact t_X12_odds_138  hf
noncomputable def f_X12_odds_101 (x0 : Nat) (x2 : Int32) (x3 : Int32) (x4 : Int32) (x5 : Int32) (x6 : Int32) (x7 : Int32) (M : zM) : Option (Int32 × zM) :=
  (if x7 = x2 then (f_X12_odds_110 x0 x2 x3 x4 x5 x6 x7 M) else (f_X12_odds_110 x0 x2 x3 x4 0 x6 x7 M))
set_option maxHeartbeats 2000000 in
set_option maxRecDepth 20000 in
theorem t_X12_odds_101 {l : Launch} {x0 : Nat} {x2 : Int32} {x3 : Int32} {x4 : Int32} {x5 : Int32} {x6 : Int32} {x7 : Int32} {M MO : zM} {v : Int32} (h0 : z_tm SH 11 x0) (hf : f_X12_odds_101 x0 x2 x3 x4 x5 x6 x7 M = some (v, MO)) : zA l yX12_odds cX12_odds 9 (some .int) 4 0 0 SH.length (zDi SH v MO) 0 0 101 [(0, .ref x0), (2, .int x2), (3, .int x3), (4, .int x4), (5, .int x5), (6, .int x6), (7, .int x7)] [] SH M := by
  unfold f_X12_odds_101 at hf
  refine z_iload dX12_odds_101 rfl ?_
  refine z_iload_n dX12_odds_103 rfl rfl ?_
  refine z_icmp_eq (tgt := 110) dX12_odds_104 (by decide) (fun q_1 => ?_) (fun q_1 => ?_)
  · have hf := (if_pos q_1).symm.trans hf
    exact t_X12_odds_110 h0 hf
  · have hf := (if_neg q_1).symm.trans hf
    refine z_iconst (v := 0) dX12_odds_107 (by decide) ?_
    refine z_istore' (lv' := [(5, .int 0), (0, .ref x0), (2, .int x2), (3, .int x3), (4, .int x4), (6, .int x6), (7, .int x7)]) dX12_odds_108 (by decide) rfl rfl ?_
    refine zA.pick [(0, .ref x0), (2, .int x2), (3, .int x3), (4, .int x4), (5, .int 0), (6, .int x6), (7, .int x7)] [1, 2, 3, 4, 0, 5, 6] rfl ?_
    exact t_X12_odds_110 h0 hf
noncomputable def f_X12_odds_90 (x0 : Nat) (x2 : Int32) (x3 : Int32) (x4 : Int32) (k52 : Int32 → Int32 → Int32 → zM → Option (Int32 × zM)) (x5 : Int32) (x6 : Int32) (x7 : Int32) (M : zM) : Option (Int32 × zM) :=
  z_call (f_X12_above x0 x7 M) fun v_1 M_2 => (k52 x5 x6 v_1 M_2)
set_option maxHeartbeats 2000000 in
set_option maxRecDepth 20000 in
theorem t_X12_odds_90 {l : Launch} {x0 : Nat} {x2 : Int32} {x3 : Int32} {x4 : Int32} {k52 : Int32 → Int32 → Int32 → zM → Option (Int32 × zM)} {x5 : Int32} {x6 : Int32} {x7 : Int32} {M MO : zM} {v : Int32} (h0 : z_tm SH 11 x0) (hk52 : ∀ (x5 : Int32) (x6 : Int32) (x7 : Int32) (M : zM), k52 x5 x6 x7 M = some (v, MO) → zA l yX12_odds cX12_odds 9 (some .int) 4 0 0 SH.length (zDi SH v MO) 0 0 52 [(0, .ref x0), (2, .int x2), (3, .int x3), (4, .int x4), (5, .int x5), (6, .int x6), (7, .int x7)] [] SH M) (hf : f_X12_odds_90 x0 x2 x3 x4 k52 x5 x6 x7 M = some (v, MO)) : zA l yX12_odds cX12_odds 9 (some .int) 4 0 0 SH.length (zDi SH v MO) 0 0 90 [(0, .ref x0), (2, .int x2), (3, .int x3), (4, .int x4), (5, .int x5), (6, .int x6), (7, .int x7)] [] SH M := by
  unfold f_X12_odds_90 at hf
  refine z_aload_n dX12_odds_90 rfl rfl ?_
  refine z_iload dX12_odds_91 rfl ?_
  obtain ⟨v_1, M_2, c_3, hf⟩ := z_call_some hf
  refine z_cVi (t_X12_above h0 c_3) kw_X12_above lk_X12_255 h0 rfl (by decide) rfl (Nat.le_of_ble_eq_true rfl) ⟨Nat.le_refl 0, Nat.le_refl 0⟩ dX12_odds_93 ?_
  refine z_istore' (lv' := [(7, .int v_1), (0, .ref x0), (2, .int x2), (3, .int x3), (4, .int x4), (5, .int x5), (6, .int x6)]) dX12_odds_96 (by decide) rfl rfl ?_
  refine z_goto (tgt := 52) dX12_odds_98 (by decide) ?_
  refine zA.pick [(0, .ref x0), (2, .int x2), (3, .int x3), (4, .int x4), (5, .int x5), (6, .int x6), (7, .int v_1)] [1, 2, 3, 4, 5, 6, 0] rfl ?_
  exact hk52 x5 x6 v_1 M_2 hf
noncomputable def f_X12_odds_52 (x0 : Nat) (x2 : Int32) (x3 : Int32) (x4 : Int32) : Nat → Int32 → Int32 → Int32 → zM → Option (Int32 × zM)
  | 0, _, _, _, _ => none
  | n + 1, x5, x6, x7, M =>
    (if x7 = 24 then (f_X12_odds_101 x0 x2 x3 x4 x5 x6 x7 M) else (if x7 = x2 then (f_X12_odds_101 x0 x2 x3 x4 x5 x6 x7 M) else z_call (f_X12_takesIn x0 x7 M) fun v_3 M_4 => (if v_3 = 0 then (f_X12_odds_90 x0 x2 x3 x4 (f_X12_odds_52 x0 x2 x3 x4 n) x5 x6 x7 M_4) else zl ((x5 * (10 - x3))) fun x5_7 => zl ((x6 * 10)) fun x6_8 => (f_X12_odds_90 x0 x2 x3 x4 (f_X12_odds_52 x0 x2 x3 x4 n) x5_7 x6_8 x7 M_4))))
set_option maxHeartbeats 2000000 in
set_option maxRecDepth 20000 in
theorem t_X12_odds_52 {l : Launch} {x0 : Nat} {x2 : Int32} {x3 : Int32} {x4 : Int32} {MO : zM} {v : Int32} (h0 : z_tm SH 11 x0) : ∀ (n : Nat) (x5 : Int32) (x6 : Int32) (x7 : Int32) (M : zM), f_X12_odds_52 x0 x2 x3 x4 n x5 x6 x7 M = some (v, MO) → zA l yX12_odds cX12_odds 9 (some .int) 4 0 0 SH.length (zDi SH v MO) 0 0 52 [(0, .ref x0), (2, .int x2), (3, .int x3), (4, .int x4), (5, .int x5), (6, .int x6), (7, .int x7)] [] SH M := by
  intro n
  induction n with
  | zero =>
    intro x5 x6 x7 M hf
    rw [f_X12_odds_52] at hf
    cases hf
  | succ n ih =>
    intro x5 x6 x7 M hf
    rw [f_X12_odds_52] at hf
    refine z_iload dX12_odds_52 rfl ?_
    refine z_bipush (v := 24) dX12_odds_54 (by decide) ?_
    refine z_icmp_eq (tgt := 101) dX12_odds_56 (by decide) (fun q_1 => ?_) (fun q_1 => ?_)
    · have hf := (if_pos q_1).symm.trans hf
      exact t_X12_odds_101 h0 hf
    · have hf := (if_neg q_1).symm.trans hf
      refine z_iload dX12_odds_59 rfl ?_
      refine z_iload_n dX12_odds_61 rfl rfl ?_
      refine z_icmp_eq (tgt := 101) dX12_odds_62 (by decide) (fun q_2 => ?_) (fun q_2 => ?_)
      · have hf := (if_pos q_2).symm.trans hf
        exact t_X12_odds_101 h0 hf
      · have hf := (if_neg q_2).symm.trans hf
        refine z_aload_n dX12_odds_65 rfl rfl ?_
        refine z_iload dX12_odds_66 rfl ?_
        obtain ⟨v_3, M_4, c_5, hf⟩ := z_call_some hf
        refine z_cVi (t_X12_takesIn h0 c_5) kw_X12_takesIn lk_X12_268 h0 rfl (by decide) rfl (Nat.le_of_ble_eq_true rfl) ⟨Nat.le_refl 0, Nat.le_refl 0⟩ dX12_odds_68 ?_
        refine z_if_eq (tgt := 90) dX12_odds_71 (by decide) (fun q_6 => ?_) (fun q_6 => ?_)
        · have hf := (if_pos q_6).symm.trans hf
          exact t_X12_odds_90 h0 ih hf
        · have hf := (if_neg q_6).symm.trans hf
          refine z_iload dX12_odds_74 rfl ?_
          refine z_bipush (v := 10) dX12_odds_76 (by decide) ?_
          refine z_iload_n dX12_odds_78 rfl rfl ?_
          refine z_isub dX12_odds_79 ?_
          refine z_imul dX12_odds_80 ?_
          obtain ⟨x5_7, ex5_7, hf⟩ := zl_some hf
          refine z_istore' (lv' := [(5, .int x5_7), (0, .ref x0), (2, .int x2), (3, .int x3), (4, .int x4), (6, .int x6), (7, .int x7)]) dX12_odds_81 (by decide) ex5_7 rfl ?_
          refine z_iload dX12_odds_83 rfl ?_
          refine z_bipush (v := 10) dX12_odds_85 (by decide) ?_
          refine z_imul dX12_odds_87 ?_
          obtain ⟨x6_8, ex6_8, hf⟩ := zl_some hf
          refine z_istore' (lv' := [(6, .int x6_8), (5, .int x5_7), (0, .ref x0), (2, .int x2), (3, .int x3), (4, .int x4), (7, .int x7)]) dX12_odds_88 (by decide) ex6_8 rfl ?_
          refine zA.pick [(0, .ref x0), (2, .int x2), (3, .int x3), (4, .int x4), (5, .int x5_7), (6, .int x6_8), (7, .int x7)] [2, 3, 4, 5, 1, 0, 6] rfl ?_
          exact t_X12_odds_90 h0 ih hf
noncomputable def f_X12_odds (x0 : Nat) (x1 : Int32) (x2 : Int32) (x3 : Int32) (x4 : Int32) (M : zM) : Option (Int32 × zM) :=
  z_call (f_X12_isRoom x1 M) fun v_1 M_2 => (if v_1 = 0 then some ((-1), M_2) else z_call (f_X12_in x2 0 24 M_2) fun v_5 M_6 => (if v_5 = 0 then some ((-1), M_6) else z_call (f_X12_in x3 0 10 M_6) fun v_9 M_10 => (if v_9 = 0 then some ((-1), M_10) else z_call (f_X12_in x4 0 1 M_10) fun v_13 M_14 => (if v_13 = 0 then some ((-1), M_14) else z_call (f_X12_above x0 x1 M_14) fun v_17 M_18 => (f_X12_odds_52 x0 x2 x3 x4 zF 1 1 v_17 M_18)))))
set_option maxHeartbeats 2000000 in
set_option maxRecDepth 20000 in
theorem t_X12_odds {l : Launch} {x0 : Nat} {x1 : Int32} {x2 : Int32} {x3 : Int32} {x4 : Int32} {M MO : zM} {v : Int32} (h0 : z_tm SH 11 x0) (hf : f_X12_odds x0 x1 x2 x3 x4 M = some (v, MO)) : zMet l yX12_odds cX12_odds 9 (some .int) 4 0 0 [.ref x0, .int x1, .int x2, .int x3, .int x4] SH M (zDi SH v MO) := by
  refine zMet.of (by decide +kernel) (Nat.le_of_ble_eq_true rfl) (Or.inr (Or.inl rfl)) ?_
  show zA l yX12_odds cX12_odds 9 (some .int) 4 0 0 SH.length (zDi SH v MO) 0 0 0 [(0, .ref x0), (1, .int x1), (2, .int x2), (3, .int x3), (4, .int x4)] [] SH M
  unfold f_X12_odds at hf
  refine z_iload_n dX12_odds_0 rfl rfl ?_
  obtain ⟨v_1, M_2, c_3, hf⟩ := z_call_some hf
  refine z_cSi (t_X12_isRoom  c_3) kw_X12_isRoom lk_X12_107 rfl (by decide) rfl (Nat.le_of_ble_eq_true rfl) ⟨Nat.le_refl 0, Nat.le_refl 0⟩ dX12_odds_1 ?_
  refine z_if_eq (tgt := 37) dX12_odds_4 (by decide) (fun q_4 => ?_) (fun q_4 => ?_)
  · have hf := (if_pos q_4).symm.trans hf
    refine z_iconst (v := (-1)) dX12_odds_37 (by decide) ?_
    obtain ⟨rfl, rfl⟩ := z_end hf
    exact z_iret ⟨rfl, rfl, rfl⟩ (Or.inl rfl) dX12_odds_38
  · have hf := (if_neg q_4).symm.trans hf
    refine z_iload_n dX12_odds_7 rfl rfl ?_
    refine z_iconst (v := 0) dX12_odds_8 (by decide) ?_
    refine z_bipush (v := 24) dX12_odds_9 (by decide) ?_
    obtain ⟨v_5, M_6, c_7, hf⟩ := z_call_some hf
    refine z_cSi (t_X12_in  c_7) kw_X12_in lk_X12_90 rfl (by decide) rfl (Nat.le_of_ble_eq_true rfl) ⟨Nat.le_refl 0, Nat.le_refl 0⟩ dX12_odds_11 ?_
    refine z_if_eq (tgt := 37) dX12_odds_14 (by decide) (fun q_8 => ?_) (fun q_8 => ?_)
    · have hf := (if_pos q_8).symm.trans hf
      refine z_iconst (v := (-1)) dX12_odds_37 (by decide) ?_
      obtain ⟨rfl, rfl⟩ := z_end hf
      exact z_iret ⟨rfl, rfl, rfl⟩ (Or.inl rfl) dX12_odds_38
    · have hf := (if_neg q_8).symm.trans hf
      refine z_iload_n dX12_odds_17 rfl rfl ?_
      refine z_iconst (v := 0) dX12_odds_18 (by decide) ?_
      refine z_bipush (v := 10) dX12_odds_19 (by decide) ?_
      obtain ⟨v_9, M_10, c_11, hf⟩ := z_call_some hf
      refine z_cSi (t_X12_in  c_11) kw_X12_in lk_X12_90 rfl (by decide) rfl (Nat.le_of_ble_eq_true rfl) ⟨Nat.le_refl 0, Nat.le_refl 0⟩ dX12_odds_21 ?_
      refine z_if_eq (tgt := 37) dX12_odds_24 (by decide) (fun q_12 => ?_) (fun q_12 => ?_)
      · have hf := (if_pos q_12).symm.trans hf
        refine z_iconst (v := (-1)) dX12_odds_37 (by decide) ?_
        obtain ⟨rfl, rfl⟩ := z_end hf
        exact z_iret ⟨rfl, rfl, rfl⟩ (Or.inl rfl) dX12_odds_38
      · have hf := (if_neg q_12).symm.trans hf
        refine z_iload dX12_odds_27 rfl ?_
        refine z_iconst (v := 0) dX12_odds_29 (by decide) ?_
        refine z_iconst (v := 1) dX12_odds_30 (by decide) ?_
        obtain ⟨v_13, M_14, c_15, hf⟩ := z_call_some hf
        refine z_cSi (t_X12_in  c_15) kw_X12_in lk_X12_90 rfl (by decide) rfl (Nat.le_of_ble_eq_true rfl) ⟨Nat.le_refl 0, Nat.le_refl 0⟩ dX12_odds_31 ?_
        refine z_if_ne (tgt := 39) dX12_odds_34 (by decide) (fun q_16 => ?_) (fun q_16 => ?_)
        · have hf := (if_neg q_16).symm.trans hf
          refine z_iconst (v := 1) dX12_odds_39 (by decide) ?_
          refine z_istore' (lv' := [(5, .int 1), (0, .ref x0), (1, .int x1), (2, .int x2), (3, .int x3), (4, .int x4)]) dX12_odds_40 (by decide) rfl rfl ?_
          refine z_iconst (v := 1) dX12_odds_42 (by decide) ?_
          refine z_istore' (lv' := [(6, .int 1), (5, .int 1), (0, .ref x0), (1, .int x1), (2, .int x2), (3, .int x3), (4, .int x4)]) dX12_odds_43 (by decide) rfl rfl ?_
          refine z_aload_n dX12_odds_45 rfl rfl ?_
          refine z_iload_n dX12_odds_46 rfl rfl ?_
          obtain ⟨v_17, M_18, c_19, hf⟩ := z_call_some hf
          refine z_cVi (t_X12_above h0 c_19) kw_X12_above lk_X12_255 h0 rfl (by decide) rfl (Nat.le_of_ble_eq_true rfl) ⟨Nat.le_refl 0, Nat.le_refl 0⟩ dX12_odds_47 ?_
          refine z_istore' (lv' := [(7, .int v_17), (6, .int 1), (5, .int 1), (0, .ref x0), (1, .int x1), (2, .int x2), (3, .int x3), (4, .int x4)]) dX12_odds_50 (by decide) rfl rfl ?_
          refine zA.pick [(0, .ref x0), (2, .int x2), (3, .int x3), (4, .int x4), (5, .int 1), (6, .int 1), (7, .int v_17)] [3, 5, 6, 7, 2, 1, 0] rfl ?_
          exact t_X12_odds_52 h0 zF 1 1 v_17 M_18 hf
        · have hf := (if_pos q_16).symm.trans hf
          refine z_iconst (v := (-1)) dX12_odds_37 (by decide) ?_
          obtain ⟨rfl, rfl⟩ := z_end hf
          exact z_iret ⟨rfl, rfl, rfl⟩ (Or.inl rfl) dX12_odds_38
noncomputable def f_X12_passes_26 (x2 : Int32) (x3 : Int32) (M : zM) : Option (Int32 × zM) :=
  (if x3 = x2 then some (1, M) else some (0, M))
set_option maxHeartbeats 2000000 in
set_option maxRecDepth 20000 in
theorem t_X12_passes_26 {l : Launch} {x2 : Int32} {x3 : Int32} {M MO : zM} {v : Int32} (hf : f_X12_passes_26 x2 x3 M = some (v, MO)) : zA l yX12_passes cX12_passes 4 (some .boolean) 4 0 0 SH.length (zDi SH v MO) 0 0 26 [(2, .int x2), (3, .int x3)] [] SH M := by
  unfold f_X12_passes_26 at hf
  refine z_iload_n dX12_passes_26 rfl rfl ?_
  refine z_iload_n dX12_passes_27 rfl rfl ?_
  refine z_icmp_ne (tgt := 35) dX12_passes_28 (by decide) (fun q_1 => ?_) (fun q_1 => ?_)
  · have hf := (if_neg q_1).symm.trans hf
    refine z_iconst (v := 0) dX12_passes_35 (by decide) ?_
    obtain ⟨rfl, rfl⟩ := z_end hf
    exact z_iret ⟨rfl, rfl, rfl⟩ (Or.inr ⟨rfl, (Or.inl rfl)⟩) dX12_passes_36
  · have hf := (if_pos q_1).symm.trans hf
    refine z_iconst (v := 1) dX12_passes_31 (by decide) ?_
    refine z_goto (tgt := 36) dX12_passes_32 (by decide) ?_
    obtain ⟨rfl, rfl⟩ := z_end hf
    exact z_iret ⟨rfl, rfl, rfl⟩ (Or.inr ⟨rfl, (Or.inr rfl)⟩) dX12_passes_36
noncomputable def f_X12_passes_6 (x0 : Nat) (x2 : Int32) : Nat → Int32 → zM → Option (Int32 × zM)
  | 0, _, _ => none
  | n + 1, x3, M =>
    (if x3 = 24 then (f_X12_passes_26 x2 x3 M) else (if x3 = x2 then (f_X12_passes_26 x2 x3 M) else z_call (f_X12_above x0 x3 M) fun v_3 M_4 => (f_X12_passes_6 x0 x2 n v_3 M_4)))
set_option maxHeartbeats 2000000 in
set_option maxRecDepth 20000 in
theorem t_X12_passes_6 {l : Launch} {x0 : Nat} {x2 : Int32} {MO : zM} {v : Int32} (h0 : z_tm SH 11 x0) : ∀ (n : Nat) (x3 : Int32) (M : zM), f_X12_passes_6 x0 x2 n x3 M = some (v, MO) → zA l yX12_passes cX12_passes 4 (some .boolean) 4 0 0 SH.length (zDi SH v MO) 0 0 6 [(0, .ref x0), (2, .int x2), (3, .int x3)] [] SH M := by
  intro n
  induction n with
  | zero =>
    intro x3 M hf
    rw [f_X12_passes_6] at hf
    cases hf
  | succ n ih =>
    intro x3 M hf
    rw [f_X12_passes_6] at hf
    refine z_iload_n dX12_passes_6 rfl rfl ?_
    refine z_bipush (v := 24) dX12_passes_7 (by decide) ?_
    refine z_icmp_eq (tgt := 26) dX12_passes_9 (by decide) (fun q_1 => ?_) (fun q_1 => ?_)
    · have hf := (if_pos q_1).symm.trans hf
      refine zA.pick [(2, .int x2), (3, .int x3)] [1, 2] rfl ?_
      exact t_X12_passes_26  hf
    · have hf := (if_neg q_1).symm.trans hf
      refine z_iload_n dX12_passes_12 rfl rfl ?_
      refine z_iload_n dX12_passes_13 rfl rfl ?_
      refine z_icmp_eq (tgt := 26) dX12_passes_14 (by decide) (fun q_2 => ?_) (fun q_2 => ?_)
      · have hf := (if_pos q_2).symm.trans hf
        refine zA.pick [(2, .int x2), (3, .int x3)] [1, 2] rfl ?_
        exact t_X12_passes_26  hf
      · have hf := (if_neg q_2).symm.trans hf
        refine z_aload_n dX12_passes_17 rfl rfl ?_
        refine z_iload_n dX12_passes_18 rfl rfl ?_
        obtain ⟨v_3, M_4, c_5, hf⟩ := z_call_some hf
        refine z_cVi (t_X12_above h0 c_5) kw_X12_above lk_X12_255 h0 rfl (by decide) rfl (Nat.le_of_ble_eq_true rfl) ⟨Nat.le_refl 0, Nat.le_refl 0⟩ dX12_passes_19 ?_
        refine z_istore_n' (lv' := [(3, .int v_3), (0, .ref x0), (2, .int x2)]) rfl dX12_passes_22 (by decide) rfl rfl ?_
        refine z_goto (tgt := 6) dX12_passes_23 (by decide) ?_
        refine zA.pick [(0, .ref x0), (2, .int x2), (3, .int v_3)] [1, 2, 0] rfl ?_
        exact ih v_3 M_4 hf
noncomputable def f_X12_passes (x0 : Nat) (x1 : Int32) (x2 : Int32) (M : zM) : Option (Int32 × zM) :=
  z_call (f_X12_above x0 x1 M) fun v_1 M_2 => (f_X12_passes_6 x0 x2 zF v_1 M_2)
set_option maxHeartbeats 2000000 in
set_option maxRecDepth 20000 in
theorem t_X12_passes {l : Launch} {x0 : Nat} {x1 : Int32} {x2 : Int32} {M MO : zM} {v : Int32} (h0 : z_tm SH 11 x0) (hf : f_X12_passes x0 x1 x2 M = some (v, MO)) : zMet l yX12_passes cX12_passes 4 (some .boolean) 4 0 0 [.ref x0, .int x1, .int x2] SH M (zDi SH v MO) := by
  refine zMet.of (by decide +kernel) (Nat.le_of_ble_eq_true rfl) (Or.inr (Or.inr (Or.inl rfl))) ?_
  show zA l yX12_passes cX12_passes 4 (some .boolean) 4 0 0 SH.length (zDi SH v MO) 0 0 0 [(0, .ref x0), (1, .int x1), (2, .int x2)] [] SH M
  unfold f_X12_passes at hf
  refine z_aload_n dX12_passes_0 rfl rfl ?_
  refine z_iload_n dX12_passes_1 rfl rfl ?_
  obtain ⟨v_1, M_2, c_3, hf⟩ := z_call_some hf
  refine z_cVi (t_X12_above h0 c_3) kw_X12_above lk_X12_255 h0 rfl (by decide) rfl (Nat.le_of_ble_eq_true rfl) ⟨Nat.le_refl 0, Nat.le_refl 0⟩ dX12_passes_2 ?_
  refine z_istore_n' (lv' := [(3, .int v_1), (0, .ref x0), (1, .int x1), (2, .int x2)]) rfl dX12_passes_5 (by decide) rfl rfl ?_
  refine zA.pick [(0, .ref x0), (2, .int x2), (3, .int v_1)] [1, 3, 0] rfl ?_
  exact t_X12_passes_6 h0 zF v_1 M_2 hf
noncomputable def f_X12_fromWhere_34 (x0 : Nat) (x1 : Int32) (k13 : Int32 → Int32 → zM → Option (Int32 × zM)) (x2 : Int32) (x3 : Int32) (M : zM) : Option (Int32 × zM) :=
  zl (x3 + 1) fun x3_1 => (k13 x2 x3_1 M)
set_option maxHeartbeats 2000000 in
set_option maxRecDepth 20000 in
theorem t_X12_fromWhere_34 {l : Launch} {x0 : Nat} {x1 : Int32} {k13 : Int32 → Int32 → zM → Option (Int32 × zM)} {x2 : Int32} {x3 : Int32} {M MO : zM} {v : Int32} (h0 : z_tm SH 11 x0) (hk13 : ∀ (x2 : Int32) (x3 : Int32) (M : zM), k13 x2 x3 M = some (v, MO) → zA l yX12_fromWhere cX12_fromWhere 4 (some .int) 5 0 0 SH.length (zDi SH v MO) 0 0 13 [(0, .ref x0), (1, .int x1), (2, .int x2), (3, .int x3)] [] SH M) (hf : f_X12_fromWhere_34 x0 x1 k13 x2 x3 M = some (v, MO)) : zA l yX12_fromWhere cX12_fromWhere 4 (some .int) 5 0 0 SH.length (zDi SH v MO) 0 0 34 [(0, .ref x0), (1, .int x1), (2, .int x2), (3, .int x3)] [] SH M := by
  unfold f_X12_fromWhere_34 at hf
  obtain ⟨x3_1, ex3_1, hf⟩ := zl_some hf
  refine z_iinc' (lv' := [(3, .int x3_1), (0, .ref x0), (1, .int x1), (2, .int x2)]) dX12_fromWhere_34 rfl (by decide) ex3_1 (by decide) rfl ?_
  refine z_goto (tgt := 13) dX12_fromWhere_37 (by decide) ?_
  refine zA.pick [(0, .ref x0), (1, .int x1), (2, .int x2), (3, .int x3_1)] [1, 2, 3, 0] rfl ?_
  exact hk13 x2 x3_1 M hf
noncomputable def f_X12_fromWhere_13 (x0 : Nat) (x1 : Int32) : Nat → Int32 → Int32 → zM → Option (Int32 × zM)
  | 0, _, _, _ => none
  | n + 1, x2, x3, M =>
    (if 24 ≤ x3 then some (x2, M) else z_call (f_X12_passes x0 x3 x1 M) fun v_2 M_3 => (if v_2 = 0 then (f_X12_fromWhere_34 x0 x1 (f_X12_fromWhere_13 x0 x1 n) x2 x3 M_3) else zl ((x2 ||| ((1 : Int32) <<< (x3 &&& 31)))) fun x2_6 => (f_X12_fromWhere_34 x0 x1 (f_X12_fromWhere_13 x0 x1 n) x2_6 x3 M_3)))
set_option maxHeartbeats 2000000 in
set_option maxRecDepth 20000 in
theorem t_X12_fromWhere_13 {l : Launch} {x0 : Nat} {x1 : Int32} {MO : zM} {v : Int32} (h0 : z_tm SH 11 x0) : ∀ (n : Nat) (x2 : Int32) (x3 : Int32) (M : zM), f_X12_fromWhere_13 x0 x1 n x2 x3 M = some (v, MO) → zA l yX12_fromWhere cX12_fromWhere 4 (some .int) 5 0 0 SH.length (zDi SH v MO) 0 0 13 [(0, .ref x0), (1, .int x1), (2, .int x2), (3, .int x3)] [] SH M := by
  intro n
  induction n with
  | zero =>
    intro x2 x3 M hf
    rw [f_X12_fromWhere_13] at hf
    cases hf
  | succ n ih =>
    intro x2 x3 M hf
    rw [f_X12_fromWhere_13] at hf
    refine z_iload_n dX12_fromWhere_13 rfl rfl ?_
    refine z_bipush (v := 24) dX12_fromWhere_14 (by decide) ?_
    refine z_icmp_ge (tgt := 40) dX12_fromWhere_16 (by decide) (fun q_1 => ?_) (fun q_1 => ?_)
    · have hf := (if_pos q_1).symm.trans hf
      refine z_iload_n dX12_fromWhere_40 rfl rfl ?_
      obtain ⟨rfl, rfl⟩ := z_end hf
      exact z_iret ⟨rfl, rfl, rfl⟩ (Or.inl rfl) dX12_fromWhere_41
    · have hf := (if_neg q_1).symm.trans hf
      refine z_aload_n dX12_fromWhere_19 rfl rfl ?_
      refine z_iload_n dX12_fromWhere_20 rfl rfl ?_
      refine z_iload_n dX12_fromWhere_21 rfl rfl ?_
      obtain ⟨v_2, M_3, c_4, hf⟩ := z_call_some hf
      refine z_cVi (t_X12_passes h0 c_4) kw_X12_passes lk_X12_300 h0 rfl (by decide) rfl (Nat.le_of_ble_eq_true rfl) ⟨Nat.le_refl 0, Nat.le_refl 0⟩ dX12_fromWhere_22 ?_
      refine z_if_eq (tgt := 34) dX12_fromWhere_25 (by decide) (fun q_5 => ?_) (fun q_5 => ?_)
      · have hf := (if_pos q_5).symm.trans hf
        exact t_X12_fromWhere_34 h0 ih hf
      · have hf := (if_neg q_5).symm.trans hf
        refine z_iload_n dX12_fromWhere_28 rfl rfl ?_
        refine z_iconst (v := 1) dX12_fromWhere_29 (by decide) ?_
        refine z_iload_n dX12_fromWhere_30 rfl rfl ?_
        refine z_ishl dX12_fromWhere_31 ?_
        refine z_ior dX12_fromWhere_32 ?_
        obtain ⟨x2_6, ex2_6, hf⟩ := zl_some hf
        refine z_istore_n' (lv' := [(2, .int x2_6), (0, .ref x0), (1, .int x1), (3, .int x3)]) rfl dX12_fromWhere_33 (by decide) ex2_6 rfl ?_
        refine zA.pick [(0, .ref x0), (1, .int x1), (2, .int x2_6), (3, .int x3)] [1, 2, 0, 3] rfl ?_
        exact t_X12_fromWhere_34 h0 ih hf
noncomputable def f_X12_fromWhere (x0 : Nat) (x1 : Int32) (M : zM) : Option (Int32 × zM) :=
  z_call (f_X12_isRoom x1 M) fun v_1 M_2 => (if v_1 = 0 then some ((-1), M_2) else (f_X12_fromWhere_13 x0 x1 zF 0 0 M_2))
set_option maxHeartbeats 2000000 in
set_option maxRecDepth 20000 in
theorem t_X12_fromWhere {l : Launch} {x0 : Nat} {x1 : Int32} {M MO : zM} {v : Int32} (h0 : z_tm SH 11 x0) (hf : f_X12_fromWhere x0 x1 M = some (v, MO)) : zMet l yX12_fromWhere cX12_fromWhere 4 (some .int) 5 0 0 [.ref x0, .int x1] SH M (zDi SH v MO) := by
  refine zMet.of (by decide +kernel) (Nat.le_of_ble_eq_true rfl) (Or.inr (Or.inl rfl)) ?_
  show zA l yX12_fromWhere cX12_fromWhere 4 (some .int) 5 0 0 SH.length (zDi SH v MO) 0 0 0 [(0, .ref x0), (1, .int x1)] [] SH M
  unfold f_X12_fromWhere at hf
  refine z_iload_n dX12_fromWhere_0 rfl rfl ?_
  obtain ⟨v_1, M_2, c_3, hf⟩ := z_call_some hf
  refine z_cSi (t_X12_isRoom  c_3) kw_X12_isRoom lk_X12_107 rfl (by decide) rfl (Nat.le_of_ble_eq_true rfl) ⟨Nat.le_refl 0, Nat.le_refl 0⟩ dX12_fromWhere_1 ?_
  refine z_if_ne (tgt := 9) dX12_fromWhere_4 (by decide) (fun q_4 => ?_) (fun q_4 => ?_)
  · have hf := (if_neg q_4).symm.trans hf
    refine z_iconst (v := 0) dX12_fromWhere_9 (by decide) ?_
    refine z_istore_n' (lv' := [(2, .int 0), (0, .ref x0), (1, .int x1)]) rfl dX12_fromWhere_10 (by decide) rfl rfl ?_
    refine z_iconst (v := 0) dX12_fromWhere_11 (by decide) ?_
    refine z_istore_n' (lv' := [(3, .int 0), (2, .int 0), (0, .ref x0), (1, .int x1)]) rfl dX12_fromWhere_12 (by decide) rfl rfl ?_
    refine zA.pick [(0, .ref x0), (1, .int x1), (2, .int 0), (3, .int 0)] [2, 3, 1, 0] rfl ?_
    exact t_X12_fromWhere_13 h0 zF 0 0 M_2 hf
  · have hf := (if_pos q_4).symm.trans hf
    refine z_iconst (v := (-1)) dX12_fromWhere_7 (by decide) ?_
    obtain ⟨rfl, rfl⟩ := z_end hf
    exact z_iret ⟨rfl, rfl, rfl⟩ (Or.inl rfl) dX12_fromWhere_8
noncomputable def f_X12_meet_21 (x0 : Nat) : Nat → Int32 → Int32 → zM → Option (Int32 × zM)
  | 0, _, _, _ => none
  | n + 1, x3, x4, M =>
    (if x3 = x4 then (if x3 = 24 then some ((-2), M) else some (x3, M)) else (if (x4 / 4) < (x3 / 4) then z_call (f_X12_above x0 x4 M) fun v_4 M_5 => (f_X12_meet_21 x0 n x3 v_4 M_5) else z_call (f_X12_above x0 x3 M) fun v_7 M_8 => (f_X12_meet_21 x0 n v_7 x4 M_8)))
set_option maxHeartbeats 2000000 in
set_option maxRecDepth 20000 in
theorem t_X12_meet_21 {l : Launch} {x0 : Nat} {MO : zM} {v : Int32} (h0 : z_tm SH 11 x0) : ∀ (n : Nat) (x3 : Int32) (x4 : Int32) (M : zM), f_X12_meet_21 x0 n x3 x4 M = some (v, MO) → zA l yX12_meet cX12_meet 5 (some .int) 4 0 0 SH.length (zDi SH v MO) 0 0 21 [(0, .ref x0), (3, .int x3), (4, .int x4)] [] SH M := by
  intro n
  induction n with
  | zero =>
    intro x3 x4 M hf
    rw [f_X12_meet_21] at hf
    cases hf
  | succ n ih =>
    intro x3 x4 M hf
    rw [f_X12_meet_21] at hf
    refine z_iload_n dX12_meet_21 rfl rfl ?_
    refine z_iload dX12_meet_22 rfl ?_
    refine z_icmp_eq (tgt := 57) dX12_meet_24 (by decide) (fun q_1 => ?_) (fun q_1 => ?_)
    · have hf := (if_pos q_1).symm.trans hf
      refine z_iload_n dX12_meet_57 rfl rfl ?_
      refine z_bipush (v := 24) dX12_meet_58 (by decide) ?_
      refine z_icmp_ne (tgt := 68) dX12_meet_60 (by decide) (fun q_2 => ?_) (fun q_2 => ?_)
      · have hf := (if_neg q_2).symm.trans hf
        refine z_iload_n dX12_meet_68 rfl rfl ?_
        obtain ⟨rfl, rfl⟩ := z_end hf
        exact z_iret ⟨rfl, rfl, rfl⟩ (Or.inl rfl) dX12_meet_69
      · have hf := (if_pos q_2).symm.trans hf
        refine z_bipush (v := (-2)) dX12_meet_63 (by decide) ?_
        refine z_goto (tgt := 69) dX12_meet_65 (by decide) ?_
        obtain ⟨rfl, rfl⟩ := z_end hf
        exact z_iret ⟨rfl, rfl, rfl⟩ (Or.inl rfl) dX12_meet_69
    · have hf := (if_neg q_1).symm.trans hf
      refine z_iload_n dX12_meet_27 rfl rfl ?_
      refine z_iconst (v := 4) dX12_meet_28 (by decide) ?_
      refine z_idiv dX12_meet_29 (by decide) ?_
      refine z_iload dX12_meet_30 rfl ?_
      refine z_iconst (v := 4) dX12_meet_32 (by decide) ?_
      refine z_idiv dX12_meet_33 (by decide) ?_
      refine z_icmp_gt (tgt := 46) dX12_meet_34 (by decide) (fun q_3 => ?_) (fun q_3 => ?_)
      · have hf := (if_pos q_3).symm.trans hf
        refine z_aload_n dX12_meet_46 rfl rfl ?_
        refine z_iload dX12_meet_47 rfl ?_
        obtain ⟨v_4, M_5, c_6, hf⟩ := z_call_some hf
        refine z_cVi (t_X12_above h0 c_6) kw_X12_above lk_X12_255 h0 rfl (by decide) rfl (Nat.le_of_ble_eq_true rfl) ⟨Nat.le_refl 0, Nat.le_refl 0⟩ dX12_meet_49 ?_
        refine z_istore' (lv' := [(4, .int v_4), (0, .ref x0), (3, .int x3)]) dX12_meet_52 (by decide) rfl rfl ?_
        refine z_goto (tgt := 21) dX12_meet_54 (by decide) ?_
        refine zA.pick [(0, .ref x0), (3, .int x3), (4, .int v_4)] [1, 2, 0] rfl ?_
        exact ih x3 v_4 M_5 hf
      · have hf := (if_neg q_3).symm.trans hf
        refine z_aload_n dX12_meet_37 rfl rfl ?_
        refine z_iload_n dX12_meet_38 rfl rfl ?_
        obtain ⟨v_7, M_8, c_9, hf⟩ := z_call_some hf
        refine z_cVi (t_X12_above h0 c_9) kw_X12_above lk_X12_255 h0 rfl (by decide) rfl (Nat.le_of_ble_eq_true rfl) ⟨Nat.le_refl 0, Nat.le_refl 0⟩ dX12_meet_39 ?_
        refine z_istore_n' (lv' := [(3, .int v_7), (0, .ref x0), (4, .int x4)]) rfl dX12_meet_42 (by decide) rfl rfl ?_
        refine z_goto (tgt := 21) dX12_meet_43 (by decide) ?_
        refine zA.pick [(0, .ref x0), (3, .int v_7), (4, .int x4)] [1, 0, 2] rfl ?_
        exact ih v_7 x4 M_8 hf
noncomputable def f_X12_meet (x0 : Nat) (x1 : Int32) (x2 : Int32) (M : zM) : Option (Int32 × zM) :=
  z_call (f_X12_isRoom x1 M) fun v_1 M_2 => (if v_1 = 0 then some ((-1), M_2) else z_call (f_X12_isRoom x2 M_2) fun v_5 M_6 => (if v_5 = 0 then some ((-1), M_6) else (f_X12_meet_21 x0 zF x1 x2 M_6)))
set_option maxHeartbeats 2000000 in
set_option maxRecDepth 20000 in
theorem t_X12_meet {l : Launch} {x0 : Nat} {x1 : Int32} {x2 : Int32} {M MO : zM} {v : Int32} (h0 : z_tm SH 11 x0) (hf : f_X12_meet x0 x1 x2 M = some (v, MO)) : zMet l yX12_meet cX12_meet 5 (some .int) 4 0 0 [.ref x0, .int x1, .int x2] SH M (zDi SH v MO) := by
  refine zMet.of (by decide +kernel) (Nat.le_of_ble_eq_true rfl) (Or.inr (Or.inl rfl)) ?_
  show zA l yX12_meet cX12_meet 5 (some .int) 4 0 0 SH.length (zDi SH v MO) 0 0 0 [(0, .ref x0), (1, .int x1), (2, .int x2)] [] SH M
  unfold f_X12_meet at hf
  refine z_iload_n dX12_meet_0 rfl rfl ?_
  obtain ⟨v_1, M_2, c_3, hf⟩ := z_call_some hf
  refine z_cSi (t_X12_isRoom  c_3) kw_X12_isRoom lk_X12_107 rfl (by decide) rfl (Nat.le_of_ble_eq_true rfl) ⟨Nat.le_refl 0, Nat.le_refl 0⟩ dX12_meet_1 ?_
  refine z_if_eq (tgt := 14) dX12_meet_4 (by decide) (fun q_4 => ?_) (fun q_4 => ?_)
  · have hf := (if_pos q_4).symm.trans hf
    refine z_iconst (v := (-1)) dX12_meet_14 (by decide) ?_
    obtain ⟨rfl, rfl⟩ := z_end hf
    exact z_iret ⟨rfl, rfl, rfl⟩ (Or.inl rfl) dX12_meet_15
  · have hf := (if_neg q_4).symm.trans hf
    refine z_iload_n dX12_meet_7 rfl rfl ?_
    obtain ⟨v_5, M_6, c_7, hf⟩ := z_call_some hf
    refine z_cSi (t_X12_isRoom  c_7) kw_X12_isRoom lk_X12_107 rfl (by decide) rfl (Nat.le_of_ble_eq_true rfl) ⟨Nat.le_refl 0, Nat.le_refl 0⟩ dX12_meet_8 ?_
    refine z_if_ne (tgt := 16) dX12_meet_11 (by decide) (fun q_8 => ?_) (fun q_8 => ?_)
    · have hf := (if_neg q_8).symm.trans hf
      refine z_iload_n dX12_meet_16 rfl rfl ?_
      refine z_istore_n' (lv' := [(3, .int x1), (0, .ref x0), (1, .int x1), (2, .int x2)]) rfl dX12_meet_17 (by decide) rfl rfl ?_
      refine z_iload_n dX12_meet_18 rfl rfl ?_
      refine z_istore' (lv' := [(4, .int x2), (3, .int x1), (0, .ref x0), (1, .int x1), (2, .int x2)]) dX12_meet_19 (by decide) rfl rfl ?_
      refine zA.pick [(0, .ref x0), (3, .int x1), (4, .int x2)] [2, 1, 0] rfl ?_
      exact t_X12_meet_21 h0 zF x1 x2 M_6 hf
    · have hf := (if_pos q_8).symm.trans hf
      refine z_iconst (v := (-1)) dX12_meet_14 (by decide) ?_
      obtain ⟨rfl, rfl⟩ := z_end hf
      exact z_iret ⟨rfl, rfl, rfl⟩ (Or.inl rfl) dX12_meet_15
noncomputable def f_X12_cowls_4 (x0 : Nat) : Nat → Int32 → Int32 → zM → Option (Int32 × zM)
  | 0, _, _, _ => none
  | n + 1, x1, x2, M =>
    (if 4 ≤ x2 then z_call (f_X12_bits x1 M) fun v_2 M_3 => some (v_2, M_3) else z_call (f_X12_way x0 x2 4 M) fun v_5 M_6 => zl ((x1 ||| ((1 : Int32) <<< (v_5 &&& 31)))) fun x1_8 => zl (x2 + 1) fun x2_9 => (f_X12_cowls_4 x0 n x1_8 x2_9 M_6))
set_option maxHeartbeats 2000000 in
set_option maxRecDepth 20000 in
theorem t_X12_cowls_4 {l : Launch} {x0 : Nat} {MO : zM} {v : Int32} (h0 : z_tm SH 11 x0) : ∀ (n : Nat) (x1 : Int32) (x2 : Int32) (M : zM), f_X12_cowls_4 x0 n x1 x2 M = some (v, MO) → zA l yX12_cowls cX12_cowls 3 (some .int) 5 0 0 SH.length (zDi SH v MO) 0 0 4 [(0, .ref x0), (1, .int x1), (2, .int x2)] [] SH M := by
  intro n
  induction n with
  | zero =>
    intro x1 x2 M hf
    rw [f_X12_cowls_4] at hf
    cases hf
  | succ n ih =>
    intro x1 x2 M hf
    rw [f_X12_cowls_4] at hf
    refine z_iload_n dX12_cowls_4 rfl rfl ?_
    refine z_iconst (v := 4) dX12_cowls_5 (by decide) ?_
    refine z_icmp_ge (tgt := 26) dX12_cowls_6 (by decide) (fun q_1 => ?_) (fun q_1 => ?_)
    · have hf := (if_pos q_1).symm.trans hf
      refine z_iload_n dX12_cowls_26 rfl rfl ?_
      obtain ⟨v_2, M_3, c_4, hf⟩ := z_call_some hf
      refine z_cSi (t_X12_bits  c_4) kw_X12_bits lk_X12_306 rfl (by decide) rfl (Nat.le_of_ble_eq_true rfl) ⟨Nat.le_refl 0, Nat.le_refl 0⟩ dX12_cowls_27 ?_
      obtain ⟨rfl, rfl⟩ := z_end hf
      exact z_iret ⟨rfl, rfl, rfl⟩ (Or.inl rfl) dX12_cowls_30
    · have hf := (if_neg q_1).symm.trans hf
      refine z_iload_n dX12_cowls_9 rfl rfl ?_
      refine z_iconst (v := 1) dX12_cowls_10 (by decide) ?_
      refine z_aload_n dX12_cowls_11 rfl rfl ?_
      refine z_iload_n dX12_cowls_12 rfl rfl ?_
      refine z_iconst (v := 4) dX12_cowls_13 (by decide) ?_
      obtain ⟨v_5, M_6, c_7, hf⟩ := z_call_some hf
      refine z_cVi (t_X12_way h0 c_7) kw_X12_way lk_X12_303 h0 rfl (by decide) rfl (Nat.le_of_ble_eq_true rfl) ⟨Nat.le_refl 0, Nat.le_refl 0⟩ dX12_cowls_14 ?_
      refine z_ishl dX12_cowls_17 ?_
      refine z_ior dX12_cowls_18 ?_
      obtain ⟨x1_8, ex1_8, hf⟩ := zl_some hf
      refine z_istore_n' (lv' := [(1, .int x1_8), (0, .ref x0), (2, .int x2)]) rfl dX12_cowls_19 (by decide) ex1_8 rfl ?_
      obtain ⟨x2_9, ex2_9, hf⟩ := zl_some hf
      refine z_iinc' (lv' := [(2, .int x2_9), (1, .int x1_8), (0, .ref x0)]) dX12_cowls_20 rfl (by decide) ex2_9 (by decide) rfl ?_
      refine z_goto (tgt := 4) dX12_cowls_23 (by decide) ?_
      refine zA.pick [(0, .ref x0), (1, .int x1_8), (2, .int x2_9)] [2, 1, 0] rfl ?_
      exact ih x1_8 x2_9 M_6 hf
noncomputable def f_X12_cowls (x0 : Nat) (M : zM) : Option (Int32 × zM) :=
  (f_X12_cowls_4 x0 zF 0 0 M)
set_option maxHeartbeats 2000000 in
set_option maxRecDepth 20000 in
theorem t_X12_cowls {l : Launch} {x0 : Nat} {M MO : zM} {v : Int32} (h0 : z_tm SH 11 x0) (hf : f_X12_cowls x0 M = some (v, MO)) : zMet l yX12_cowls cX12_cowls 3 (some .int) 5 0 0 [.ref x0] SH M (zDi SH v MO) := by
  refine zMet.of (by decide +kernel) (Nat.le_of_ble_eq_true rfl) (Or.inr (Or.inl rfl)) ?_
  show zA l yX12_cowls cX12_cowls 3 (some .int) 5 0 0 SH.length (zDi SH v MO) 0 0 0 [(0, .ref x0)] [] SH M
  unfold f_X12_cowls at hf
  refine z_iconst (v := 0) dX12_cowls_0 (by decide) ?_
  refine z_istore_n' (lv' := [(1, .int 0), (0, .ref x0)]) rfl dX12_cowls_1 (by decide) rfl rfl ?_
  refine z_iconst (v := 0) dX12_cowls_2 (by decide) ?_
  refine z_istore_n' (lv' := [(2, .int 0), (1, .int 0), (0, .ref x0)]) rfl dX12_cowls_3 (by decide) rfl rfl ?_
  refine zA.pick [(0, .ref x0), (1, .int 0), (2, .int 0)] [2, 1, 0] rfl ?_
  exact t_X12_cowls_4 h0 zF 0 0 M hf
noncomputable def f_X12_leads (x0 : Int32) (x1 : Int32) (x2 : Int32) (M : zM) : Option (Int32 × zM) :=
  z_call (f_X12_turned x0 x1 M) fun v_1 M_2 => (if v_1 = x2 then some (1, M_2) else some (0, M_2))
set_option maxHeartbeats 2000000 in
set_option maxRecDepth 20000 in
theorem t_X12_leads {l : Launch} {x0 : Int32} {x1 : Int32} {x2 : Int32} {M MO : zM} {v : Int32} (hf : f_X12_leads x0 x1 x2 M = some (v, MO)) : zMet l yX12_leads cX12_leads 3 (some .boolean) 3 0 0 [.int x0, .int x1, .int x2] SH M (zDi SH v MO) := by
  refine zMet.of (by decide +kernel) (Nat.le_of_ble_eq_true rfl) (Or.inr (Or.inr (Or.inl rfl))) ?_
  show zA l yX12_leads cX12_leads 3 (some .boolean) 3 0 0 SH.length (zDi SH v MO) 0 0 0 [(0, .int x0), (1, .int x1), (2, .int x2)] [] SH M
  unfold f_X12_leads at hf
  refine z_iload_n dX12_leads_0 rfl rfl ?_
  refine z_iload_n dX12_leads_1 rfl rfl ?_
  obtain ⟨v_1, M_2, c_3, hf⟩ := z_call_some hf
  refine z_cSi (t_X12_turned  c_3) kw_X12_turned lk_X12_104 rfl (by decide) rfl (Nat.le_of_ble_eq_true rfl) ⟨Nat.le_refl 0, Nat.le_refl 0⟩ dX12_leads_2 ?_
  refine z_iload_n dX12_leads_5 rfl rfl ?_
  refine z_icmp_ne (tgt := 13) dX12_leads_6 (by decide) (fun q_4 => ?_) (fun q_4 => ?_)
  · have hf := (if_neg q_4).symm.trans hf
    refine z_iconst (v := 0) dX12_leads_13 (by decide) ?_
    obtain ⟨rfl, rfl⟩ := z_end hf
    exact z_iret ⟨rfl, rfl, rfl⟩ (Or.inr ⟨rfl, (Or.inl rfl)⟩) dX12_leads_14
  · have hf := (if_pos q_4).symm.trans hf
    refine z_iconst (v := 1) dX12_leads_9 (by decide) ?_
    refine z_goto (tgt := 14) dX12_leads_10 (by decide) ?_
    obtain ⟨rfl, rfl⟩ := z_end hf
    exact z_iret ⟨rfl, rfl, rfl⟩ (Or.inr ⟨rfl, (Or.inr rfl)⟩) dX12_leads_14
noncomputable def f_X12_costOf_59 (s0 : Int32) (M : zM) : Option (Int32 × zM) :=
  (if s0 = 0 then some (1000000, M) else some (1, M))
set_option maxHeartbeats 2000000 in
set_option maxRecDepth 20000 in
theorem t_X12_costOf_59 {l : Launch} {s0 : Int32} {M MO : zM} {v : Int32} (hf : f_X12_costOf_59  s0 M = some (v, MO)) : zA l yX12_costOf cX12_costOf 4 (some .int) 4 0 0 SH.length (zDi SH v MO) 0 0 59 [] [.int s0] SH M := by
  unfold f_X12_costOf_59 at hf
  refine z_istore_n' (lv' := [(3, .int s0)]) rfl dX12_costOf_59 (by decide) rfl rfl ?_
  refine z_iload_n dX12_costOf_60 rfl rfl ?_
  refine z_if_eq (tgt := 68) dX12_costOf_61 (by decide) (fun q_1 => ?_) (fun q_1 => ?_)
  · have hf := (if_pos q_1).symm.trans hf
    refine z_ldcw (v := 1000000) dX12_costOf_68 cn_X12_312 ?_
    obtain ⟨rfl, rfl⟩ := z_end hf
    exact z_iret ⟨rfl, rfl, rfl⟩ (Or.inl rfl) dX12_costOf_71
  · have hf := (if_neg q_1).symm.trans hf
    refine z_iconst (v := 1) dX12_costOf_64 (by decide) ?_
    refine z_goto (tgt := 71) dX12_costOf_65 (by decide) ?_
    obtain ⟨rfl, rfl⟩ := z_end hf
    exact z_iret ⟨rfl, rfl, rfl⟩ (Or.inl rfl) dX12_costOf_71
noncomputable def f_X12_costOf_54 (M : zM) : Option (Int32 × zM) :=
  (f_X12_costOf_59 1 M)
set_option maxHeartbeats 2000000 in
set_option maxRecDepth 20000 in
theorem t_X12_costOf_54 {l : Launch} {M MO : zM} {v : Int32} (hf : f_X12_costOf_54  M = some (v, MO)) : zA l yX12_costOf cX12_costOf 4 (some .int) 4 0 0 SH.length (zDi SH v MO) 0 0 54 [] [] SH M := by
  unfold f_X12_costOf_54 at hf
  refine z_iconst (v := 1) dX12_costOf_54 (by decide) ?_
  refine z_goto (tgt := 59) dX12_costOf_55 (by decide) ?_
  exact t_X12_costOf_59  hf
noncomputable def f_X12_costOf (x0 : Nat) (x1 : Int32) (x2 : Int32) (M : zM) : Option (Int32 × zM) :=
  z_rd (M.2.1 x0 0) fun a_1 => if z_ix (72 + x1) (z_ln SH a_1) = true then z_call (f_X12_leads (x1 - x1 / 4 * 4) (M.1 a_1 ((72 + x1) : Int32).toNatClampNeg) x2 M) fun v_3 M_4 => (if v_3 = 0 then z_call (f_X12_leads (x1 - x1 / 4 * 4) 0 x2 M_4) fun v_7 M_8 => (if v_7 = 0 then z_call (f_X12_leads (x1 - x1 / 4 * 4) 1 x2 M_8) fun v_11 M_12 => (if v_11 = 0 then z_call (f_X12_leads (x1 - x1 / 4 * 4) 2 x2 M_12) fun v_15 M_16 => (if v_15 = 0 then (f_X12_costOf_59 0 M_16) else (f_X12_costOf_54 M_16)) else (f_X12_costOf_54 M_12)) else (f_X12_costOf_54 M_8)) else some (0, M_4)) else none
set_option maxHeartbeats 2000000 in
set_option maxRecDepth 20000 in
theorem t_X12_costOf {l : Launch} {x0 : Nat} {x1 : Int32} {x2 : Int32} {M MO : zM} {v : Int32} (h0 : z_tm SH 11 x0) (hf : f_X12_costOf x0 x1 x2 M = some (v, MO)) : zMet l yX12_costOf cX12_costOf 4 (some .int) 4 0 0 [.ref x0, .int x1, .int x2] SH M (zDi SH v MO) := by
  refine zMet.of (by decide +kernel) (Nat.le_of_ble_eq_true rfl) (Or.inr (Or.inl rfl)) ?_
  show zA l yX12_costOf cX12_costOf 4 (some .int) 4 0 0 SH.length (zDi SH v MO) 0 0 0 [(0, .ref x0), (1, .int x1), (2, .int x2)] [] SH M
  unfold f_X12_costOf at hf
  refine z_iload_n dX12_costOf_0 rfl rfl ?_
  refine z_iconst (v := 4) dX12_costOf_1 (by decide) ?_
  refine z_irem dX12_costOf_2 (by decide) ?_
  refine z_aload_n dX12_costOf_3 rfl rfl ?_
  obtain ⟨a_1, ra_1, hf⟩ := z_rd_some hf
  refine zgR fl_X12_7 h0 (fun _ => rfl) ra_1 dX12_costOf_4 (fun ha_1 => ?_)
  refine z_bipush (v := 72) dX12_costOf_7 (by decide) ?_
  refine z_iload_n dX12_costOf_9 rfl rfl ?_
  refine z_iadd dX12_costOf_10 ?_
  obtain ⟨g_2, hf⟩ := z_ifs hf
  refine z_iald ha_1 g_2 rfl dX12_costOf_11 ?_
  refine z_iload_n dX12_costOf_12 rfl rfl ?_
  obtain ⟨v_3, M_4, c_5, hf⟩ := z_call_some hf
  refine z_cSi (t_X12_leads  c_5) kw_X12_leads lk_X12_309 rfl (by decide) rfl (Nat.le_of_ble_eq_true rfl) ⟨Nat.le_refl 0, Nat.le_refl 0⟩ dX12_costOf_13 ?_
  refine z_if_eq (tgt := 21) dX12_costOf_16 (by decide) (fun q_6 => ?_) (fun q_6 => ?_)
  · have hf := (if_pos q_6).symm.trans hf
    refine z_iload_n dX12_costOf_21 rfl rfl ?_
    refine z_iconst (v := 4) dX12_costOf_22 (by decide) ?_
    refine z_irem dX12_costOf_23 (by decide) ?_
    refine z_iconst (v := 0) dX12_costOf_24 (by decide) ?_
    refine z_iload_n dX12_costOf_25 rfl rfl ?_
    obtain ⟨v_7, M_8, c_9, hf⟩ := z_call_some hf
    refine z_cSi (t_X12_leads  c_9) kw_X12_leads lk_X12_309 rfl (by decide) rfl (Nat.le_of_ble_eq_true rfl) ⟨Nat.le_refl 0, Nat.le_refl 0⟩ dX12_costOf_26 ?_
    refine z_if_ne (tgt := 54) dX12_costOf_29 (by decide) (fun q_10 => ?_) (fun q_10 => ?_)
    · have hf := (if_neg q_10).symm.trans hf
      refine zA.pick [] [] rfl ?_
      exact t_X12_costOf_54  hf
    · have hf := (if_pos q_10).symm.trans hf
      refine z_iload_n dX12_costOf_32 rfl rfl ?_
      refine z_iconst (v := 4) dX12_costOf_33 (by decide) ?_
      refine z_irem dX12_costOf_34 (by decide) ?_
      refine z_iconst (v := 1) dX12_costOf_35 (by decide) ?_
      refine z_iload_n dX12_costOf_36 rfl rfl ?_
      obtain ⟨v_11, M_12, c_13, hf⟩ := z_call_some hf
      refine z_cSi (t_X12_leads  c_13) kw_X12_leads lk_X12_309 rfl (by decide) rfl (Nat.le_of_ble_eq_true rfl) ⟨Nat.le_refl 0, Nat.le_refl 0⟩ dX12_costOf_37 ?_
      refine z_if_ne (tgt := 54) dX12_costOf_40 (by decide) (fun q_14 => ?_) (fun q_14 => ?_)
      · have hf := (if_neg q_14).symm.trans hf
        refine zA.pick [] [] rfl ?_
        exact t_X12_costOf_54  hf
      · have hf := (if_pos q_14).symm.trans hf
        refine z_iload_n dX12_costOf_43 rfl rfl ?_
        refine z_iconst (v := 4) dX12_costOf_44 (by decide) ?_
        refine z_irem dX12_costOf_45 (by decide) ?_
        refine z_iconst (v := 2) dX12_costOf_46 (by decide) ?_
        refine z_iload_n dX12_costOf_47 rfl rfl ?_
        obtain ⟨v_15, M_16, c_17, hf⟩ := z_call_some hf
        refine z_cSi (t_X12_leads  c_17) kw_X12_leads lk_X12_309 rfl (by decide) rfl (Nat.le_of_ble_eq_true rfl) ⟨Nat.le_refl 0, Nat.le_refl 0⟩ dX12_costOf_48 ?_
        refine z_if_eq (tgt := 58) dX12_costOf_51 (by decide) (fun q_18 => ?_) (fun q_18 => ?_)
        · have hf := (if_pos q_18).symm.trans hf
          refine z_iconst (v := 0) dX12_costOf_58 (by decide) ?_
          refine zA.pick [] [] rfl ?_
          exact t_X12_costOf_59  hf
        · have hf := (if_neg q_18).symm.trans hf
          refine zA.pick [] [] rfl ?_
          exact t_X12_costOf_54  hf
  · have hf := (if_neg q_6).symm.trans hf
    refine z_iconst (v := 0) dX12_costOf_19 (by decide) ?_
    obtain ⟨rfl, rfl⟩ := z_end hf
    exact z_iret ⟨rfl, rfl, rfl⟩ (Or.inl rfl) dX12_costOf_20
noncomputable def f_X12_laysFewest_135 (x0 : Nat) (k52 : Int32 → zM → Option (Unit × zM)) (k58 : Int32 → Int32 → zM → Option (Unit × zM)) (x2 : Int32) (x3 : Int32) (M : zM) : Option (Unit × zM) :=
  zl (x3 + 1) fun x3_1 => (k58 x2 x3_1 M)
set_option maxHeartbeats 2000000 in
set_option maxRecDepth 20000 in
theorem t_X12_laysFewest_135 {l : Launch} {x0 : Nat} {k52 : Int32 → zM → Option (Unit × zM)} {k58 : Int32 → Int32 → zM → Option (Unit × zM)} {x2 : Int32} {x3 : Int32} {M MO : zM} {v : Unit} (h0 : z_tm SH 11 x0) (hk52 : ∀ (x2 : Int32) (M : zM), k52 x2 M = some (v, MO) → zA l yX12_laysFewest cX12_laysFewest 5 none 5 0 0 SH.length (zDv SH MO) 0 0 52 [(0, .ref x0), (2, .int x2)] [] SH M) (hk58 : ∀ (x2 : Int32) (x3 : Int32) (M : zM), k58 x2 x3 M = some (v, MO) → zA l yX12_laysFewest cX12_laysFewest 5 none 5 0 0 SH.length (zDv SH MO) 0 0 58 [(0, .ref x0), (2, .int x2), (3, .int x3)] [] SH M) (hf : f_X12_laysFewest_135 x0 k52 k58 x2 x3 M = some (v, MO)) : zA l yX12_laysFewest cX12_laysFewest 5 none 5 0 0 SH.length (zDv SH MO) 0 0 135 [(0, .ref x0), (2, .int x2), (3, .int x3)] [] SH M := by
  unfold f_X12_laysFewest_135 at hf
  obtain ⟨x3_1, ex3_1, hf⟩ := zl_some hf
  refine z_iinc' (lv' := [(3, .int x3_1), (0, .ref x0), (2, .int x2)]) dX12_laysFewest_135 rfl (by decide) ex3_1 (by decide) rfl ?_
  refine z_goto (tgt := 58) dX12_laysFewest_138 (by decide) ?_
  refine zA.pick [(0, .ref x0), (2, .int x2), (3, .int x3_1)] [1, 2, 0] rfl ?_
  exact hk58 x2 x3_1 M hf
noncomputable def f_X12_laysFewest_58 (x0 : Nat) (k52 : Int32 → zM → Option (Unit × zM)) : Nat → Int32 → Int32 → zM → Option (Unit × zM)
  | 0, _, _, _ => none
  | n + 1, x2, x3, M =>
    (if 4 ≤ x3 then zl (x2 + (-1)) fun x2_2 => (k52 x2_2 M) else zl (((((x2 / 4) * 4) + 4) + x3)) fun x4_3 => z_rd (M.2.1 x0 31) fun a_4 => z_rd (M.2.1 x0 31) fun a_5 => if z_ix x2 (z_ln SH a_5) = true then z_call (f_X12_costOf x0 x2 x3 M) fun v_7 M_8 => z_rd (M_8.2.1 x0 31) fun a_10 => if z_ix x4_3 (z_ln SH a_10) = true then z_call (f_X12_min (M.1 a_5 (x2 : Int32).toNatClampNeg) (v_7 + (M_8.1 a_10 (x4_3 : Int32).toNatClampNeg)) M_8) fun v_12 M_13 => if z_ix x2 (z_ln SH a_4) = true then zl (zu M_13.1 a_4 (x2 : Int32).toNatClampNeg v_12, M_13.2) fun M_16 => z_call (f_X12_costOf x0 x2 x3 M_16) fun v_17 M_18 => (if 1000000 ≤ v_17 then (f_X12_laysFewest_135 x0 k52 (f_X12_laysFewest_58 x0 k52 n) x2 x3 M_18) else z_rd (M_18.2.1 x0 32) fun a_21 => z_rd (M_18.2.1 x0 32) fun a_22 => if z_ix x2 (z_ln SH a_22) = true then z_rd (M_18.2.1 x0 32) fun a_24 => if z_ix x4_3 (z_ln SH a_24) = true then if z_ix x2 (z_ln SH a_21) = true then zl (zu M_18.1 a_21 (x2 : Int32).toNatClampNeg ((M_18.1 a_22 (x2 : Int32).toNatClampNeg) + (M_18.1 a_24 (x4_3 : Int32).toNatClampNeg)), M_18.2) fun M_27 => (f_X12_laysFewest_135 x0 k52 (f_X12_laysFewest_58 x0 k52 n) x2 x3 M_27) else none else none else none) else none else none else none)
set_option maxHeartbeats 2000000 in
set_option maxRecDepth 20000 in
theorem t_X12_laysFewest_58 {l : Launch} {x0 : Nat} {k52 : Int32 → zM → Option (Unit × zM)} {MO : zM} {v : Unit} (h0 : z_tm SH 11 x0) (hk52 : ∀ (x2 : Int32) (M : zM), k52 x2 M = some (v, MO) → zA l yX12_laysFewest cX12_laysFewest 5 none 5 0 0 SH.length (zDv SH MO) 0 0 52 [(0, .ref x0), (2, .int x2)] [] SH M) : ∀ (n : Nat) (x2 : Int32) (x3 : Int32) (M : zM), f_X12_laysFewest_58 x0 k52 n x2 x3 M = some (v, MO) → zA l yX12_laysFewest cX12_laysFewest 5 none 5 0 0 SH.length (zDv SH MO) 0 0 58 [(0, .ref x0), (2, .int x2), (3, .int x3)] [] SH M := by
  intro n
  induction n with
  | zero =>
    intro x2 x3 M hf
    rw [f_X12_laysFewest_58] at hf
    cases hf
  | succ n ih =>
    intro x2 x3 M hf
    rw [f_X12_laysFewest_58] at hf
    refine z_iload_n dX12_laysFewest_58 rfl rfl ?_
    refine z_iconst (v := 4) dX12_laysFewest_59 (by decide) ?_
    refine z_icmp_ge (tgt := 141) dX12_laysFewest_60 (by decide) (fun q_1 => ?_) (fun q_1 => ?_)
    · have hf := (if_pos q_1).symm.trans hf
      obtain ⟨x2_2, ex2_2, hf⟩ := zl_some hf
      refine z_iinc' (lv' := [(2, .int x2_2), (0, .ref x0), (3, .int x3)]) dX12_laysFewest_141 rfl (by decide) ex2_2 (by decide) rfl ?_
      refine z_goto (tgt := 52) dX12_laysFewest_144 (by decide) ?_
      refine zA.pick [(0, .ref x0), (2, .int x2_2)] [1, 0] rfl ?_
      exact hk52 x2_2 M hf
    · have hf := (if_neg q_1).symm.trans hf
      refine z_iload_n dX12_laysFewest_63 rfl rfl ?_
      refine z_iconst (v := 4) dX12_laysFewest_64 (by decide) ?_
      refine z_idiv dX12_laysFewest_65 (by decide) ?_
      refine z_iconst (v := 4) dX12_laysFewest_66 (by decide) ?_
      refine z_imul dX12_laysFewest_67 ?_
      refine z_iconst (v := 4) dX12_laysFewest_68 (by decide) ?_
      refine z_iadd dX12_laysFewest_69 ?_
      refine z_iload_n dX12_laysFewest_70 rfl rfl ?_
      refine z_iadd dX12_laysFewest_71 ?_
      obtain ⟨x4_3, ex4_3, hf⟩ := zl_some hf
      refine z_istore' (lv' := [(4, .int x4_3), (0, .ref x0), (2, .int x2), (3, .int x3)]) dX12_laysFewest_72 (by decide) ex4_3 rfl ?_
      refine z_aload_n dX12_laysFewest_74 rfl rfl ?_
      obtain ⟨a_4, ra_4, hf⟩ := z_rd_some hf
      refine zgR fl_X12_62 h0 (fun _ => rfl) ra_4 dX12_laysFewest_75 (fun ha_4 => ?_)
      refine z_iload_n dX12_laysFewest_78 rfl rfl ?_
      refine z_aload_n dX12_laysFewest_79 rfl rfl ?_
      obtain ⟨a_5, ra_5, hf⟩ := z_rd_some hf
      refine zgR fl_X12_62 h0 (fun _ => rfl) ra_5 dX12_laysFewest_80 (fun ha_5 => ?_)
      refine z_iload_n dX12_laysFewest_83 rfl rfl ?_
      obtain ⟨g_6, hf⟩ := z_ifs hf
      refine z_iald ha_5 g_6 rfl dX12_laysFewest_84 ?_
      refine z_aload_n dX12_laysFewest_85 rfl rfl ?_
      refine z_iload_n dX12_laysFewest_86 rfl rfl ?_
      refine z_iload_n dX12_laysFewest_87 rfl rfl ?_
      obtain ⟨v_7, M_8, c_9, hf⟩ := z_call_some hf
      refine z_cVi (t_X12_costOf h0 c_9) kw_X12_costOf lk_X12_313 h0 rfl (by decide) rfl (Nat.le_of_ble_eq_true rfl) ⟨Nat.le_refl 0, Nat.le_refl 0⟩ dX12_laysFewest_88 ?_
      refine z_aload_n dX12_laysFewest_91 rfl rfl ?_
      obtain ⟨a_10, ra_10, hf⟩ := z_rd_some hf
      refine zgR fl_X12_62 h0 (fun _ => rfl) ra_10 dX12_laysFewest_92 (fun ha_10 => ?_)
      refine z_iload dX12_laysFewest_95 rfl ?_
      obtain ⟨g_11, hf⟩ := z_ifs hf
      refine z_iald ha_10 g_11 rfl dX12_laysFewest_97 ?_
      refine z_iadd dX12_laysFewest_98 ?_
      obtain ⟨v_12, M_13, c_14, hf⟩ := z_call_some hf
      refine z_cSi (t_X12_min  c_14) kw_X12_min lk_X12_98 rfl (by decide) rfl (Nat.le_of_ble_eq_true rfl) ⟨Nat.le_refl 0, Nat.le_refl 0⟩ dX12_laysFewest_99 ?_
      obtain ⟨g_15, hf⟩ := z_ifs hf
      obtain ⟨M_16, eM_16, hf⟩ := zl_some hf
      refine z_iast ha_4 g_15 eM_16 dX12_laysFewest_102 ?_
      refine z_aload_n dX12_laysFewest_103 rfl rfl ?_
      refine z_iload_n dX12_laysFewest_104 rfl rfl ?_
      refine z_iload_n dX12_laysFewest_105 rfl rfl ?_
      obtain ⟨v_17, M_18, c_19, hf⟩ := z_call_some hf
      refine z_cVi (t_X12_costOf h0 c_19) kw_X12_costOf lk_X12_313 h0 rfl (by decide) rfl (Nat.le_of_ble_eq_true rfl) ⟨Nat.le_refl 0, Nat.le_refl 0⟩ dX12_laysFewest_106 ?_
      refine z_ldcw (v := 1000000) dX12_laysFewest_109 cn_X12_312 ?_
      refine z_icmp_ge (tgt := 135) dX12_laysFewest_112 (by decide) (fun q_20 => ?_) (fun q_20 => ?_)
      · have hf := (if_pos q_20).symm.trans hf
        refine zA.pick [(0, .ref x0), (2, .int x2), (3, .int x3)] [1, 2, 3] rfl ?_
        exact t_X12_laysFewest_135 h0 hk52 ih hf
      · have hf := (if_neg q_20).symm.trans hf
        refine z_aload_n dX12_laysFewest_115 rfl rfl ?_
        obtain ⟨a_21, ra_21, hf⟩ := z_rd_some hf
        refine zgR fl_X12_65 h0 (fun _ => rfl) ra_21 dX12_laysFewest_116 (fun ha_21 => ?_)
        refine z_iload_n dX12_laysFewest_119 rfl rfl ?_
        refine z_aload_n dX12_laysFewest_120 rfl rfl ?_
        obtain ⟨a_22, ra_22, hf⟩ := z_rd_some hf
        refine zgR fl_X12_65 h0 (fun _ => rfl) ra_22 dX12_laysFewest_121 (fun ha_22 => ?_)
        refine z_iload_n dX12_laysFewest_124 rfl rfl ?_
        obtain ⟨g_23, hf⟩ := z_ifs hf
        refine z_iald ha_22 g_23 rfl dX12_laysFewest_125 ?_
        refine z_aload_n dX12_laysFewest_126 rfl rfl ?_
        obtain ⟨a_24, ra_24, hf⟩ := z_rd_some hf
        refine zgR fl_X12_65 h0 (fun _ => rfl) ra_24 dX12_laysFewest_127 (fun ha_24 => ?_)
        refine z_iload dX12_laysFewest_130 rfl ?_
        obtain ⟨g_25, hf⟩ := z_ifs hf
        refine z_iald ha_24 g_25 rfl dX12_laysFewest_132 ?_
        refine z_iadd dX12_laysFewest_133 ?_
        obtain ⟨g_26, hf⟩ := z_ifs hf
        obtain ⟨M_27, eM_27, hf⟩ := zl_some hf
        refine z_iast ha_21 g_26 eM_27 dX12_laysFewest_134 ?_
        refine zA.pick [(0, .ref x0), (2, .int x2), (3, .int x3)] [1, 2, 3] rfl ?_
        exact t_X12_laysFewest_135 h0 hk52 ih hf
noncomputable def f_X12_laysFewest_52 (x0 : Nat) : Nat → Int32 → zM → Option (Unit × zM)
  | 0, _, _ => none
  | n + 1, x2, M =>
    (if x2 < 0 then some ((), M) else (f_X12_laysFewest_58 x0 (f_X12_laysFewest_52 x0 n) zF x2 0 M))
set_option maxHeartbeats 2000000 in
set_option maxRecDepth 20000 in
theorem t_X12_laysFewest_52 {l : Launch} {x0 : Nat} {MO : zM} {v : Unit} (h0 : z_tm SH 11 x0) : ∀ (n : Nat) (x2 : Int32) (M : zM), f_X12_laysFewest_52 x0 n x2 M = some (v, MO) → zA l yX12_laysFewest cX12_laysFewest 5 none 5 0 0 SH.length (zDv SH MO) 0 0 52 [(0, .ref x0), (2, .int x2)] [] SH M := by
  intro n
  induction n with
  | zero =>
    intro x2 M hf
    rw [f_X12_laysFewest_52] at hf
    cases hf
  | succ n ih =>
    intro x2 M hf
    rw [f_X12_laysFewest_52] at hf
    refine z_iload_n dX12_laysFewest_52 rfl rfl ?_
    refine z_if_lt (tgt := 147) dX12_laysFewest_53 (by decide) (fun q_1 => ?_) (fun q_1 => ?_)
    · have hf := (if_pos q_1).symm.trans hf
      obtain ⟨rfl, rfl⟩ := z_end hf
      exact z_vret ⟨rfl, rfl, rfl⟩ rfl dX12_laysFewest_147
    · have hf := (if_neg q_1).symm.trans hf
      refine z_iconst (v := 0) dX12_laysFewest_56 (by decide) ?_
      refine z_istore_n' (lv' := [(3, .int 0), (0, .ref x0), (2, .int x2)]) rfl dX12_laysFewest_57 (by decide) rfl rfl ?_
      refine zA.pick [(0, .ref x0), (2, .int x2), (3, .int 0)] [1, 2, 0] rfl ?_
      exact t_X12_laysFewest_58 h0 ih zF x2 0 M hf
noncomputable def f_X12_laysFewest_2 (x0 : Nat) (x1 : Int32) : Nat → Int32 → zM → Option (Unit × zM)
  | 0, _, _ => none
  | n + 1, x2, M =>
    (if 24 ≤ x2 then z_rd (M.2.1 x0 31) fun a_2 => if z_ix x1 (z_ln SH a_2) = true then zl (zu M.1 a_2 (x1 : Int32).toNatClampNeg 0, M.2) fun M_4 => z_rd (M_4.2.1 x0 32) fun a_5 => if z_ix x1 (z_ln SH a_5) = true then zl (zu M_4.1 a_5 (x1 : Int32).toNatClampNeg 1, M_4.2) fun M_7 => zl ((((x1 / 4) * 4) - 1)) fun x2_8 => (f_X12_laysFewest_52 x0 zF x2_8 M_7) else none else none else z_rd (M.2.1 x0 31) fun a_9 => if z_ix x2 (z_ln SH a_9) = true then zl (zu M.1 a_9 (x2 : Int32).toNatClampNeg 1000000, M.2) fun M_11 => z_rd (M_11.2.1 x0 32) fun a_12 => if z_ix x2 (z_ln SH a_12) = true then zl (zu M_11.1 a_12 (x2 : Int32).toNatClampNeg 0, M_11.2) fun M_14 => zl (x2 + 1) fun x2_15 => (f_X12_laysFewest_2 x0 x1 n x2_15 M_14) else none else none)
set_option maxHeartbeats 2000000 in
set_option maxRecDepth 20000 in
theorem t_X12_laysFewest_2 {l : Launch} {x0 : Nat} {x1 : Int32} {MO : zM} {v : Unit} (h0 : z_tm SH 11 x0) : ∀ (n : Nat) (x2 : Int32) (M : zM), f_X12_laysFewest_2 x0 x1 n x2 M = some (v, MO) → zA l yX12_laysFewest cX12_laysFewest 5 none 5 0 0 SH.length (zDv SH MO) 0 0 2 [(0, .ref x0), (1, .int x1), (2, .int x2)] [] SH M := by
  intro n
  induction n with
  | zero =>
    intro x2 M hf
    rw [f_X12_laysFewest_2] at hf
    cases hf
  | succ n ih =>
    intro x2 M hf
    rw [f_X12_laysFewest_2] at hf
    refine z_iload_n dX12_laysFewest_2 rfl rfl ?_
    refine z_bipush (v := 24) dX12_laysFewest_3 (by decide) ?_
    refine z_icmp_ge (tgt := 30) dX12_laysFewest_5 (by decide) (fun q_1 => ?_) (fun q_1 => ?_)
    · have hf := (if_pos q_1).symm.trans hf
      refine z_aload_n dX12_laysFewest_30 rfl rfl ?_
      obtain ⟨a_2, ra_2, hf⟩ := z_rd_some hf
      refine zgR fl_X12_62 h0 (fun _ => rfl) ra_2 dX12_laysFewest_31 (fun ha_2 => ?_)
      refine z_iload_n dX12_laysFewest_34 rfl rfl ?_
      refine z_iconst (v := 0) dX12_laysFewest_35 (by decide) ?_
      obtain ⟨g_3, hf⟩ := z_ifs hf
      obtain ⟨M_4, eM_4, hf⟩ := zl_some hf
      refine z_iast ha_2 g_3 eM_4 dX12_laysFewest_36 ?_
      refine z_aload_n dX12_laysFewest_37 rfl rfl ?_
      obtain ⟨a_5, ra_5, hf⟩ := z_rd_some hf
      refine zgR fl_X12_65 h0 (fun _ => rfl) ra_5 dX12_laysFewest_38 (fun ha_5 => ?_)
      refine z_iload_n dX12_laysFewest_41 rfl rfl ?_
      refine z_iconst (v := 1) dX12_laysFewest_42 (by decide) ?_
      obtain ⟨g_6, hf⟩ := z_ifs hf
      obtain ⟨M_7, eM_7, hf⟩ := zl_some hf
      refine z_iast ha_5 g_6 eM_7 dX12_laysFewest_43 ?_
      refine z_iload_n dX12_laysFewest_44 rfl rfl ?_
      refine z_iconst (v := 4) dX12_laysFewest_45 (by decide) ?_
      refine z_idiv dX12_laysFewest_46 (by decide) ?_
      refine z_iconst (v := 4) dX12_laysFewest_47 (by decide) ?_
      refine z_imul dX12_laysFewest_48 ?_
      refine z_iconst (v := 1) dX12_laysFewest_49 (by decide) ?_
      refine z_isub dX12_laysFewest_50 ?_
      obtain ⟨x2_8, ex2_8, hf⟩ := zl_some hf
      refine z_istore_n' (lv' := [(2, .int x2_8), (0, .ref x0), (1, .int x1)]) rfl dX12_laysFewest_51 (by decide) ex2_8 rfl ?_
      refine zA.pick [(0, .ref x0), (2, .int x2_8)] [1, 0] rfl ?_
      exact t_X12_laysFewest_52 h0 zF x2_8 M_7 hf
    · have hf := (if_neg q_1).symm.trans hf
      refine z_aload_n dX12_laysFewest_8 rfl rfl ?_
      obtain ⟨a_9, ra_9, hf⟩ := z_rd_some hf
      refine zgR fl_X12_62 h0 (fun _ => rfl) ra_9 dX12_laysFewest_9 (fun ha_9 => ?_)
      refine z_iload_n dX12_laysFewest_12 rfl rfl ?_
      refine z_ldcw (v := 1000000) dX12_laysFewest_13 cn_X12_312 ?_
      obtain ⟨g_10, hf⟩ := z_ifs hf
      obtain ⟨M_11, eM_11, hf⟩ := zl_some hf
      refine z_iast ha_9 g_10 eM_11 dX12_laysFewest_16 ?_
      refine z_aload_n dX12_laysFewest_17 rfl rfl ?_
      obtain ⟨a_12, ra_12, hf⟩ := z_rd_some hf
      refine zgR fl_X12_65 h0 (fun _ => rfl) ra_12 dX12_laysFewest_18 (fun ha_12 => ?_)
      refine z_iload_n dX12_laysFewest_21 rfl rfl ?_
      refine z_iconst (v := 0) dX12_laysFewest_22 (by decide) ?_
      obtain ⟨g_13, hf⟩ := z_ifs hf
      obtain ⟨M_14, eM_14, hf⟩ := zl_some hf
      refine z_iast ha_12 g_13 eM_14 dX12_laysFewest_23 ?_
      obtain ⟨x2_15, ex2_15, hf⟩ := zl_some hf
      refine z_iinc' (lv' := [(2, .int x2_15), (0, .ref x0), (1, .int x1)]) dX12_laysFewest_24 rfl (by decide) ex2_15 (by decide) rfl ?_
      refine z_goto (tgt := 2) dX12_laysFewest_27 (by decide) ?_
      refine zA.pick [(0, .ref x0), (1, .int x1), (2, .int x2_15)] [1, 2, 0] rfl ?_
      exact ih x2_15 M_14 hf
noncomputable def f_X12_laysFewest (x0 : Nat) (x1 : Int32) (M : zM) : Option (Unit × zM) :=
  (f_X12_laysFewest_2 x0 x1 zF 0 M)
set_option maxHeartbeats 2000000 in
set_option maxRecDepth 20000 in
theorem t_X12_laysFewest {l : Launch} {x0 : Nat} {x1 : Int32} {M MO : zM} {v : Unit} (h0 : z_tm SH 11 x0) (hf : f_X12_laysFewest x0 x1 M = some (v, MO)) : zMet l yX12_laysFewest cX12_laysFewest 5 none 5 0 0 [.ref x0, .int x1] SH M (zDv SH MO) := by
  refine zMet.of (by decide +kernel) (Nat.le_of_ble_eq_true rfl) (Or.inl rfl) ?_
  show zA l yX12_laysFewest cX12_laysFewest 5 none 5 0 0 SH.length (zDv SH MO) 0 0 0 [(0, .ref x0), (1, .int x1)] [] SH M
  unfold f_X12_laysFewest at hf
  refine z_iconst (v := 0) dX12_laysFewest_0 (by decide) ?_
  refine z_istore_n' (lv' := [(2, .int 0), (0, .ref x0), (1, .int x1)]) rfl dX12_laysFewest_1 (by decide) rfl rfl ?_
  refine zA.pick [(0, .ref x0), (1, .int x1), (2, .int 0)] [1, 2, 0] rfl ?_
  exact t_X12_laysFewest_2 h0 zF 0 M hf
noncomputable def f_X12_turn_102 (x0 : Nat) (x3 : Int32) (k93 : Int32 → Int32 → zM → Option (Int32 × zM)) : Nat → Int32 → Int32 → Int32 → zM → Option (Int32 × zM)
  | 0, _, _, _, _ => none
  | n + 1, x4, x5, x6, M =>
    z_call (f_X12_costOf x0 x4 x6 M) fun v_1 M_2 => z_rd (M_2.2.1 x0 31) fun a_4 => if z_ix ((((x4 / 4) * 4) + 4) + x6) (z_ln SH a_4) = true then z_rd (M_2.2.1 x0 31) fun a_6 => if z_ix x4 (z_ln SH a_6) = true then (if (v_1 + (M_2.1 a_4 (((((x4 / 4) * 4) + 4) + x6) : Int32).toNatClampNeg)) = (M_2.1 a_6 (x4 : Int32).toNatClampNeg) then zl (((((x4 / 4) * 4) + 4) + x6)) fun x4_9 => zl (x5 + 1) fun x5_10 => (k93 x4_9 x5_10 M_2) else zl ((x6 + 1)) fun x6_11 => (f_X12_turn_102 x0 x3 k93 n x4 x5 x6_11 M_2)) else none else none
set_option maxHeartbeats 2000000 in
set_option maxRecDepth 20000 in
theorem t_X12_turn_102 {l : Launch} {x0 : Nat} {x3 : Int32} {k93 : Int32 → Int32 → zM → Option (Int32 × zM)} {MO : zM} {v : Int32} (h0 : z_tm SH 11 x0) (hk93 : ∀ (x4 : Int32) (x5 : Int32) (M : zM), k93 x4 x5 M = some (v, MO) → zA l yX12_turn cX12_turn 7 (some .int) 6 0 0 SH.length (zDi SH v MO) 0 0 93 [(0, .ref x0), (3, .int x3), (4, .int x4), (5, .int x5)] [] SH M) : ∀ (n : Nat) (x4 : Int32) (x5 : Int32) (x6 : Int32) (M : zM), f_X12_turn_102 x0 x3 k93 n x4 x5 x6 M = some (v, MO) → zA l yX12_turn cX12_turn 7 (some .int) 6 0 0 SH.length (zDi SH v MO) 0 0 102 [(0, .ref x0), (3, .int x3), (4, .int x4), (5, .int x5), (6, .int x6)] [] SH M := by
  intro n
  induction n with
  | zero =>
    intro x4 x5 x6 M hf
    rw [f_X12_turn_102] at hf
    cases hf
  | succ n ih =>
    intro x4 x5 x6 M hf
    rw [f_X12_turn_102] at hf
    refine z_aload_n dX12_turn_102 rfl rfl ?_
    refine z_iload dX12_turn_103 rfl ?_
    refine z_iload dX12_turn_105 rfl ?_
    obtain ⟨v_1, M_2, c_3, hf⟩ := z_call_some hf
    refine z_cVi (t_X12_costOf h0 c_3) kw_X12_costOf lk_X12_313 h0 rfl (by decide) rfl (Nat.le_of_ble_eq_true rfl) ⟨Nat.le_refl 0, Nat.le_refl 0⟩ dX12_turn_107 ?_
    refine z_aload_n dX12_turn_110 rfl rfl ?_
    obtain ⟨a_4, ra_4, hf⟩ := z_rd_some hf
    refine zgR fl_X12_62 h0 (fun _ => rfl) ra_4 dX12_turn_111 (fun ha_4 => ?_)
    refine z_iload dX12_turn_114 rfl ?_
    refine z_iconst (v := 4) dX12_turn_116 (by decide) ?_
    refine z_idiv dX12_turn_117 (by decide) ?_
    refine z_iconst (v := 4) dX12_turn_118 (by decide) ?_
    refine z_imul dX12_turn_119 ?_
    refine z_iconst (v := 4) dX12_turn_120 (by decide) ?_
    refine z_iadd dX12_turn_121 ?_
    refine z_iload dX12_turn_122 rfl ?_
    refine z_iadd dX12_turn_124 ?_
    obtain ⟨g_5, hf⟩ := z_ifs hf
    refine z_iald ha_4 g_5 rfl dX12_turn_125 ?_
    refine z_iadd dX12_turn_126 ?_
    refine z_aload_n dX12_turn_127 rfl rfl ?_
    obtain ⟨a_6, ra_6, hf⟩ := z_rd_some hf
    refine zgR fl_X12_62 h0 (fun _ => rfl) ra_6 dX12_turn_128 (fun ha_6 => ?_)
    refine z_iload dX12_turn_131 rfl ?_
    obtain ⟨g_7, hf⟩ := z_ifs hf
    refine z_iald ha_6 g_7 rfl dX12_turn_133 ?_
    refine z_icmp_eq (tgt := 146) dX12_turn_134 (by decide) (fun q_8 => ?_) (fun q_8 => ?_)
    · have hf := (if_pos q_8).symm.trans hf
      refine z_iload dX12_turn_146 rfl ?_
      refine z_iconst (v := 4) dX12_turn_148 (by decide) ?_
      refine z_idiv dX12_turn_149 (by decide) ?_
      refine z_iconst (v := 4) dX12_turn_150 (by decide) ?_
      refine z_imul dX12_turn_151 ?_
      refine z_iconst (v := 4) dX12_turn_152 (by decide) ?_
      refine z_iadd dX12_turn_153 ?_
      refine z_iload dX12_turn_154 rfl ?_
      refine z_iadd dX12_turn_156 ?_
      obtain ⟨x4_9, ex4_9, hf⟩ := zl_some hf
      refine z_istore' (lv' := [(4, .int x4_9), (0, .ref x0), (3, .int x3), (5, .int x5), (6, .int x6)]) dX12_turn_157 (by decide) ex4_9 rfl ?_
      obtain ⟨x5_10, ex5_10, hf⟩ := zl_some hf
      refine z_iinc' (lv' := [(5, .int x5_10), (4, .int x4_9), (0, .ref x0), (3, .int x3), (6, .int x6)]) dX12_turn_159 rfl (by decide) ex5_10 (by decide) rfl ?_
      refine z_goto (tgt := 93) dX12_turn_162 (by decide) ?_
      refine zA.pick [(0, .ref x0), (3, .int x3), (4, .int x4_9), (5, .int x5_10)] [2, 3, 1, 0] rfl ?_
      exact hk93 x4_9 x5_10 M_2 hf
    · have hf := (if_neg q_8).symm.trans hf
      refine z_iload dX12_turn_137 rfl ?_
      refine z_iconst (v := 1) dX12_turn_139 (by decide) ?_
      refine z_iadd dX12_turn_140 ?_
      obtain ⟨x6_11, ex6_11, hf⟩ := zl_some hf
      refine z_istore' (lv' := [(6, .int x6_11), (0, .ref x0), (3, .int x3), (4, .int x4), (5, .int x5)]) dX12_turn_141 (by decide) ex6_11 rfl ?_
      refine z_goto (tgt := 102) dX12_turn_143 (by decide) ?_
      refine zA.pick [(0, .ref x0), (3, .int x3), (4, .int x4), (5, .int x5), (6, .int x6_11)] [1, 2, 3, 4, 0] rfl ?_
      exact ih x4 x5 x6_11 M_2 hf
noncomputable def f_X12_turn_93 (x0 : Nat) (x3 : Int32) : Nat → Int32 → Int32 → zM → Option (Int32 × zM)
  | 0, _, _, _ => none
  | n + 1, x4, x5, M =>
    (if x3 < x5 then some ((x4 - x4 / 4 * 4), M) else (f_X12_turn_102 x0 x3 (f_X12_turn_93 x0 x3 n) zF x4 x5 0 M))
set_option maxHeartbeats 2000000 in
set_option maxRecDepth 20000 in
theorem t_X12_turn_93 {l : Launch} {x0 : Nat} {x3 : Int32} {MO : zM} {v : Int32} (h0 : z_tm SH 11 x0) : ∀ (n : Nat) (x4 : Int32) (x5 : Int32) (M : zM), f_X12_turn_93 x0 x3 n x4 x5 M = some (v, MO) → zA l yX12_turn cX12_turn 7 (some .int) 6 0 0 SH.length (zDi SH v MO) 0 0 93 [(0, .ref x0), (3, .int x3), (4, .int x4), (5, .int x5)] [] SH M := by
  intro n
  induction n with
  | zero =>
    intro x4 x5 M hf
    rw [f_X12_turn_93] at hf
    cases hf
  | succ n ih =>
    intro x4 x5 M hf
    rw [f_X12_turn_93] at hf
    refine z_iload dX12_turn_93 rfl ?_
    refine z_iload_n dX12_turn_95 rfl rfl ?_
    refine z_icmp_gt (tgt := 165) dX12_turn_96 (by decide) (fun q_1 => ?_) (fun q_1 => ?_)
    · have hf := (if_pos q_1).symm.trans hf
      refine z_iload dX12_turn_165 rfl ?_
      refine z_iconst (v := 4) dX12_turn_167 (by decide) ?_
      refine z_irem dX12_turn_168 (by decide) ?_
      obtain ⟨rfl, rfl⟩ := z_end hf
      exact z_iret ⟨rfl, rfl, rfl⟩ (Or.inl rfl) dX12_turn_169
    · have hf := (if_neg q_1).symm.trans hf
      refine z_iconst (v := 0) dX12_turn_99 (by decide) ?_
      refine z_istore' (lv' := [(6, .int 0), (0, .ref x0), (3, .int x3), (4, .int x4), (5, .int x5)]) dX12_turn_100 (by decide) rfl rfl ?_
      refine zA.pick [(0, .ref x0), (3, .int x3), (4, .int x4), (5, .int x5), (6, .int 0)] [1, 2, 3, 4, 0] rfl ?_
      exact t_X12_turn_102 h0 ih zF x4 x5 0 M hf
noncomputable def f_X12_turn_40 (x0 : Nat) (x1 : Int32) (x2 : Int32) (x3 : Int32) (M : zM) : Option (Int32 × zM) :=
  z_call (f_X12_laysFewest x0 x2 M) fun v_1 M_2 => z_rd (M_2.2.1 x0 31) fun a_4 => if z_ix x1 (z_ln SH a_4) = true then (if (M_2.1 a_4 (x1 : Int32).toNatClampNeg) < 1000000 then (if x3 = 100 then z_rd (M_2.2.1 x0 31) fun a_9 => if z_ix x1 (z_ln SH a_9) = true then some ((M_2.1 a_9 (x1 : Int32).toNatClampNeg), M_2) else none else (if x3 < ((x2 / 4) - (x1 / 4)) then (f_X12_turn_93 x0 x3 zF x1 0 M_2) else some ((-4), M_2))) else some ((-2), M_2)) else none
set_option maxHeartbeats 2000000 in
set_option maxRecDepth 20000 in
theorem t_X12_turn_40 {l : Launch} {x0 : Nat} {x1 : Int32} {x2 : Int32} {x3 : Int32} {M MO : zM} {v : Int32} (h0 : z_tm SH 11 x0) (hf : f_X12_turn_40 x0 x1 x2 x3 M = some (v, MO)) : zA l yX12_turn cX12_turn 7 (some .int) 6 0 0 SH.length (zDi SH v MO) 0 0 40 [(0, .ref x0), (1, .int x1), (2, .int x2), (3, .int x3)] [] SH M := by
  unfold f_X12_turn_40 at hf
  refine z_aload_n dX12_turn_40 rfl rfl ?_
  refine z_iload_n dX12_turn_41 rfl rfl ?_
  obtain ⟨v_1, M_2, c_3, hf⟩ := z_call_some hf
  refine z_cVv (t_X12_laysFewest h0 c_3) kw_X12_laysFewest lk_X12_316 h0 rfl (by decide) rfl (Nat.le_of_ble_eq_true rfl) ⟨Nat.le_refl 0, Nat.le_refl 0⟩ dX12_turn_42 ?_
  refine z_aload_n dX12_turn_45 rfl rfl ?_
  obtain ⟨a_4, ra_4, hf⟩ := z_rd_some hf
  refine zgR fl_X12_62 h0 (fun _ => rfl) ra_4 dX12_turn_46 (fun ha_4 => ?_)
  refine z_iload_n dX12_turn_49 rfl rfl ?_
  obtain ⟨g_5, hf⟩ := z_ifs hf
  refine z_iald ha_4 g_5 rfl dX12_turn_50 ?_
  refine z_ldcw (v := 1000000) dX12_turn_51 cn_X12_312 ?_
  refine z_icmp_lt (tgt := 60) dX12_turn_54 (by decide) (fun q_6 => ?_) (fun q_6 => ?_)
  · have hf := (if_pos q_6).symm.trans hf
    refine z_iload_n dX12_turn_60 rfl rfl ?_
    refine z_bipush (v := 100) dX12_turn_61 (by decide) ?_
    refine z_icmp_ne (tgt := 73) dX12_turn_63 (by decide) (fun q_7 => ?_) (fun q_7 => ?_)
    · have hf := (if_neg q_7).symm.trans hf
      refine z_iload_n dX12_turn_73 rfl rfl ?_
      refine z_iload_n dX12_turn_74 rfl rfl ?_
      refine z_iconst (v := 4) dX12_turn_75 (by decide) ?_
      refine z_idiv dX12_turn_76 (by decide) ?_
      refine z_iload_n dX12_turn_77 rfl rfl ?_
      refine z_iconst (v := 4) dX12_turn_78 (by decide) ?_
      refine z_idiv dX12_turn_79 (by decide) ?_
      refine z_isub dX12_turn_80 ?_
      refine z_icmp_lt (tgt := 87) dX12_turn_81 (by decide) (fun q_8 => ?_) (fun q_8 => ?_)
      · have hf := (if_pos q_8).symm.trans hf
        refine z_iload_n dX12_turn_87 rfl rfl ?_
        refine z_istore' (lv' := [(4, .int x1), (0, .ref x0), (1, .int x1), (2, .int x2), (3, .int x3)]) dX12_turn_88 (by decide) rfl rfl ?_
        refine z_iconst (v := 0) dX12_turn_90 (by decide) ?_
        refine z_istore' (lv' := [(5, .int 0), (4, .int x1), (0, .ref x0), (1, .int x1), (2, .int x2), (3, .int x3)]) dX12_turn_91 (by decide) rfl rfl ?_
        refine zA.pick [(0, .ref x0), (3, .int x3), (4, .int x1), (5, .int 0)] [2, 5, 1, 0] rfl ?_
        exact t_X12_turn_93 h0 zF x1 0 M_2 hf
      · have hf := (if_neg q_8).symm.trans hf
        refine z_bipush (v := (-4)) dX12_turn_84 (by decide) ?_
        obtain ⟨rfl, rfl⟩ := z_end hf
        exact z_iret ⟨rfl, rfl, rfl⟩ (Or.inl rfl) dX12_turn_86
    · have hf := (if_pos q_7).symm.trans hf
      refine z_aload_n dX12_turn_66 rfl rfl ?_
      obtain ⟨a_9, ra_9, hf⟩ := z_rd_some hf
      refine zgR fl_X12_62 h0 (fun _ => rfl) ra_9 dX12_turn_67 (fun ha_9 => ?_)
      refine z_iload_n dX12_turn_70 rfl rfl ?_
      obtain ⟨g_10, hf⟩ := z_ifs hf
      refine z_iald ha_9 g_10 rfl dX12_turn_71 ?_
      obtain ⟨rfl, rfl⟩ := z_end hf
      exact z_iret ⟨rfl, rfl, rfl⟩ (Or.inl rfl) dX12_turn_72
  · have hf := (if_neg q_6).symm.trans hf
    refine z_bipush (v := (-2)) dX12_turn_57 (by decide) ?_
    obtain ⟨rfl, rfl⟩ := z_end hf
    exact z_iret ⟨rfl, rfl, rfl⟩ (Or.inl rfl) dX12_turn_59
noncomputable def f_X12_turn (x0 : Nat) (x1 : Int32) (x2 : Int32) (x3 : Int32) (M : zM) : Option (Int32 × zM) :=
  z_call (f_X12_isRoom x1 M) fun v_1 M_2 => (if v_1 = 0 then some ((-1), M_2) else z_call (f_X12_isRoom x2 M_2) fun v_5 M_6 => (if v_5 = 0 then some ((-1), M_6) else (if (x2 / 4) ≤ (x1 / 4) then some ((-1), M_6) else z_call (f_X12_in x3 0 4 M_6) fun v_10 M_11 => (if v_10 = 0 then (if x3 = 100 then (f_X12_turn_40 x0 x1 x2 x3 M_11) else some ((-1), M_11)) else (f_X12_turn_40 x0 x1 x2 x3 M_11)))))
set_option maxHeartbeats 2000000 in
set_option maxRecDepth 20000 in
theorem t_X12_turn {l : Launch} {x0 : Nat} {x1 : Int32} {x2 : Int32} {x3 : Int32} {M MO : zM} {v : Int32} (h0 : z_tm SH 11 x0) (hf : f_X12_turn x0 x1 x2 x3 M = some (v, MO)) : zMet l yX12_turn cX12_turn 7 (some .int) 6 0 0 [.ref x0, .int x1, .int x2, .int x3] SH M (zDi SH v MO) := by
  refine zMet.of (by decide +kernel) (Nat.le_of_ble_eq_true rfl) (Or.inr (Or.inl rfl)) ?_
  show zA l yX12_turn cX12_turn 7 (some .int) 6 0 0 SH.length (zDi SH v MO) 0 0 0 [(0, .ref x0), (1, .int x1), (2, .int x2), (3, .int x3)] [] SH M
  unfold f_X12_turn at hf
  refine z_iload_n dX12_turn_0 rfl rfl ?_
  obtain ⟨v_1, M_2, c_3, hf⟩ := z_call_some hf
  refine z_cSi (t_X12_isRoom  c_3) kw_X12_isRoom lk_X12_107 rfl (by decide) rfl (Nat.le_of_ble_eq_true rfl) ⟨Nat.le_refl 0, Nat.le_refl 0⟩ dX12_turn_1 ?_
  refine z_if_eq (tgt := 38) dX12_turn_4 (by decide) (fun q_4 => ?_) (fun q_4 => ?_)
  · have hf := (if_pos q_4).symm.trans hf
    refine z_iconst (v := (-1)) dX12_turn_38 (by decide) ?_
    obtain ⟨rfl, rfl⟩ := z_end hf
    exact z_iret ⟨rfl, rfl, rfl⟩ (Or.inl rfl) dX12_turn_39
  · have hf := (if_neg q_4).symm.trans hf
    refine z_iload_n dX12_turn_7 rfl rfl ?_
    obtain ⟨v_5, M_6, c_7, hf⟩ := z_call_some hf
    refine z_cSi (t_X12_isRoom  c_7) kw_X12_isRoom lk_X12_107 rfl (by decide) rfl (Nat.le_of_ble_eq_true rfl) ⟨Nat.le_refl 0, Nat.le_refl 0⟩ dX12_turn_8 ?_
    refine z_if_eq (tgt := 38) dX12_turn_11 (by decide) (fun q_8 => ?_) (fun q_8 => ?_)
    · have hf := (if_pos q_8).symm.trans hf
      refine z_iconst (v := (-1)) dX12_turn_38 (by decide) ?_
      obtain ⟨rfl, rfl⟩ := z_end hf
      exact z_iret ⟨rfl, rfl, rfl⟩ (Or.inl rfl) dX12_turn_39
    · have hf := (if_neg q_8).symm.trans hf
      refine z_iload_n dX12_turn_14 rfl rfl ?_
      refine z_iconst (v := 4) dX12_turn_15 (by decide) ?_
      refine z_idiv dX12_turn_16 (by decide) ?_
      refine z_iload_n dX12_turn_17 rfl rfl ?_
      refine z_iconst (v := 4) dX12_turn_18 (by decide) ?_
      refine z_idiv dX12_turn_19 (by decide) ?_
      refine z_icmp_le (tgt := 38) dX12_turn_20 (by decide) (fun q_9 => ?_) (fun q_9 => ?_)
      · have hf := (if_pos q_9).symm.trans hf
        refine z_iconst (v := (-1)) dX12_turn_38 (by decide) ?_
        obtain ⟨rfl, rfl⟩ := z_end hf
        exact z_iret ⟨rfl, rfl, rfl⟩ (Or.inl rfl) dX12_turn_39
      · have hf := (if_neg q_9).symm.trans hf
        refine z_iload_n dX12_turn_23 rfl rfl ?_
        refine z_iconst (v := 0) dX12_turn_24 (by decide) ?_
        refine z_iconst (v := 4) dX12_turn_25 (by decide) ?_
        obtain ⟨v_10, M_11, c_12, hf⟩ := z_call_some hf
        refine z_cSi (t_X12_in  c_12) kw_X12_in lk_X12_90 rfl (by decide) rfl (Nat.le_of_ble_eq_true rfl) ⟨Nat.le_refl 0, Nat.le_refl 0⟩ dX12_turn_26 ?_
        refine z_if_ne (tgt := 40) dX12_turn_29 (by decide) (fun q_13 => ?_) (fun q_13 => ?_)
        · have hf := (if_neg q_13).symm.trans hf
          exact t_X12_turn_40 h0 hf
        · have hf := (if_pos q_13).symm.trans hf
          refine z_iload_n dX12_turn_32 rfl rfl ?_
          refine z_bipush (v := 100) dX12_turn_33 (by decide) ?_
          refine z_icmp_eq (tgt := 40) dX12_turn_35 (by decide) (fun q_14 => ?_) (fun q_14 => ?_)
          · have hf := (if_pos q_14).symm.trans hf
            exact t_X12_turn_40 h0 hf
          · have hf := (if_neg q_14).symm.trans hf
            refine z_iconst (v := (-1)) dX12_turn_38 (by decide) ?_
            obtain ⟨rfl, rfl⟩ := z_end hf
            exact z_iret ⟨rfl, rfl, rfl⟩ (Or.inl rfl) dX12_turn_39
noncomputable def f_X12_ways (x0 : Nat) (x1 : Int32) (x2 : Int32) (M : zM) : Option (Int32 × zM) :=
  z_call (f_X12_isRoom x1 M) fun v_1 M_2 => (if v_1 = 0 then some ((-1), M_2) else z_call (f_X12_isRoom x2 M_2) fun v_5 M_6 => (if v_5 = 0 then some ((-1), M_6) else (if (x1 / 4) < (x2 / 4) then z_call (f_X12_laysFewest x0 x2 M_6) fun v_10 M_11 => z_rd (M_11.2.1 x0 32) fun a_13 => if z_ix x1 (z_ln SH a_13) = true then some ((M_11.1 a_13 (x1 : Int32).toNatClampNeg), M_11) else none else some ((-1), M_6))))
set_option maxHeartbeats 2000000 in
set_option maxRecDepth 20000 in
theorem t_X12_ways {l : Launch} {x0 : Nat} {x1 : Int32} {x2 : Int32} {M MO : zM} {v : Int32} (h0 : z_tm SH 11 x0) (hf : f_X12_ways x0 x1 x2 M = some (v, MO)) : zMet l yX12_ways cX12_ways 3 (some .int) 6 0 0 [.ref x0, .int x1, .int x2] SH M (zDi SH v MO) := by
  refine zMet.of (by decide +kernel) (Nat.le_of_ble_eq_true rfl) (Or.inr (Or.inl rfl)) ?_
  show zA l yX12_ways cX12_ways 3 (some .int) 6 0 0 SH.length (zDi SH v MO) 0 0 0 [(0, .ref x0), (1, .int x1), (2, .int x2)] [] SH M
  unfold f_X12_ways at hf
  refine z_iload_n dX12_ways_0 rfl rfl ?_
  obtain ⟨v_1, M_2, c_3, hf⟩ := z_call_some hf
  refine z_cSi (t_X12_isRoom  c_3) kw_X12_isRoom lk_X12_107 rfl (by decide) rfl (Nat.le_of_ble_eq_true rfl) ⟨Nat.le_refl 0, Nat.le_refl 0⟩ dX12_ways_1 ?_
  refine z_if_eq (tgt := 23) dX12_ways_4 (by decide) (fun q_4 => ?_) (fun q_4 => ?_)
  · have hf := (if_pos q_4).symm.trans hf
    refine z_iconst (v := (-1)) dX12_ways_23 (by decide) ?_
    obtain ⟨rfl, rfl⟩ := z_end hf
    exact z_iret ⟨rfl, rfl, rfl⟩ (Or.inl rfl) dX12_ways_24
  · have hf := (if_neg q_4).symm.trans hf
    refine z_iload_n dX12_ways_7 rfl rfl ?_
    obtain ⟨v_5, M_6, c_7, hf⟩ := z_call_some hf
    refine z_cSi (t_X12_isRoom  c_7) kw_X12_isRoom lk_X12_107 rfl (by decide) rfl (Nat.le_of_ble_eq_true rfl) ⟨Nat.le_refl 0, Nat.le_refl 0⟩ dX12_ways_8 ?_
    refine z_if_eq (tgt := 23) dX12_ways_11 (by decide) (fun q_8 => ?_) (fun q_8 => ?_)
    · have hf := (if_pos q_8).symm.trans hf
      refine z_iconst (v := (-1)) dX12_ways_23 (by decide) ?_
      obtain ⟨rfl, rfl⟩ := z_end hf
      exact z_iret ⟨rfl, rfl, rfl⟩ (Or.inl rfl) dX12_ways_24
    · have hf := (if_neg q_8).symm.trans hf
      refine z_iload_n dX12_ways_14 rfl rfl ?_
      refine z_iconst (v := 4) dX12_ways_15 (by decide) ?_
      refine z_idiv dX12_ways_16 (by decide) ?_
      refine z_iload_n dX12_ways_17 rfl rfl ?_
      refine z_iconst (v := 4) dX12_ways_18 (by decide) ?_
      refine z_idiv dX12_ways_19 (by decide) ?_
      refine z_icmp_gt (tgt := 25) dX12_ways_20 (by decide) (fun q_9 => ?_) (fun q_9 => ?_)
      · have hf := (if_pos q_9).symm.trans hf
        refine z_aload_n dX12_ways_25 rfl rfl ?_
        refine z_iload_n dX12_ways_26 rfl rfl ?_
        obtain ⟨v_10, M_11, c_12, hf⟩ := z_call_some hf
        refine z_cVv (t_X12_laysFewest h0 c_12) kw_X12_laysFewest lk_X12_316 h0 rfl (by decide) rfl (Nat.le_of_ble_eq_true rfl) ⟨Nat.le_refl 0, Nat.le_refl 0⟩ dX12_ways_27 ?_
        refine z_aload_n dX12_ways_30 rfl rfl ?_
        obtain ⟨a_13, ra_13, hf⟩ := z_rd_some hf
        refine zgR fl_X12_65 h0 (fun _ => rfl) ra_13 dX12_ways_31 (fun ha_13 => ?_)
        refine z_iload_n dX12_ways_34 rfl rfl ?_
        obtain ⟨g_14, hf⟩ := z_ifs hf
        refine z_iald ha_13 g_14 rfl dX12_ways_35 ?_
        obtain ⟨rfl, rfl⟩ := z_end hf
        exact z_iret ⟨rfl, rfl, rfl⟩ (Or.inl rfl) dX12_ways_36
      · have hf := (if_neg q_9).symm.trans hf
        refine z_iconst (v := (-1)) dX12_ways_23 (by decide) ?_
        obtain ⟨rfl, rfl⟩ := z_end hf
        exact z_iret ⟨rfl, rfl, rfl⟩ (Or.inl rfl) dX12_ways_24
noncomputable def f_X12_belowOf_60 (x0 : Nat) (x1 : Int32) (x2 : Int32) (k11 : Int64 → Int32 → zM → Option (Int64 × zM)) (x3 : Int64) (x5 : Int32) (M : zM) : Option (Int64 × zM) :=
  zl (x5 + 1) fun x5_1 => (k11 x3 x5_1 M)
set_option maxHeartbeats 2000000 in
set_option maxRecDepth 20000 in
theorem t_X12_belowOf_60 {l : Launch} {x0 : Nat} {x1 : Int32} {x2 : Int32} {k11 : Int64 → Int32 → zM → Option (Int64 × zM)} {x3 : Int64} {x5 : Int32} {M MO : zM} {v : Int64} (h0 : z_tm SH 11 x0) (hk11 : ∀ (x3 : Int64) (x5 : Int32) (M : zM), k11 x3 x5 M = some (v, MO) → zA l yX12_belowOf cX12_belowOf 6 (some .long) 4 0 0 SH.length (zDl SH v MO) 0 0 11 [(0, .ref x0), (1, .int x1), (2, .int x2), (3, .long x3), (5, .int x5)] [] SH M) (hf : f_X12_belowOf_60 x0 x1 x2 k11 x3 x5 M = some (v, MO)) : zA l yX12_belowOf cX12_belowOf 6 (some .long) 4 0 0 SH.length (zDl SH v MO) 0 0 60 [(0, .ref x0), (1, .int x1), (2, .int x2), (3, .long x3), (5, .int x5)] [] SH M := by
  unfold f_X12_belowOf_60 at hf
  obtain ⟨x5_1, ex5_1, hf⟩ := zl_some hf
  refine z_iinc' (lv' := [(5, .int x5_1), (0, .ref x0), (1, .int x1), (2, .int x2), (3, .long x3)]) dX12_belowOf_60 rfl (by decide) ex5_1 (by decide) rfl ?_
  refine z_goto (tgt := 11) dX12_belowOf_63 (by decide) ?_
  refine zA.pick [(0, .ref x0), (1, .int x1), (2, .int x2), (3, .long x3), (5, .int x5_1)] [1, 2, 3, 4, 0] rfl ?_
  exact hk11 x3 x5_1 M hf
noncomputable def f_X12_belowOf_58 (x0 : Nat) (x1 : Int32) (x2 : Int32) (k11 : Int64 → Int32 → zM → Option (Int64 × zM)) (x5 : Int32) (s0 : Int64) (s1 : Int64) (M : zM) : Option (Int64 × zM) :=
  zl ((s0 + s1)) fun x3_1 => (f_X12_belowOf_60 x0 x1 x2 k11 x3_1 x5 M)
set_option maxHeartbeats 2000000 in
set_option maxRecDepth 20000 in
theorem t_X12_belowOf_58 {l : Launch} {x0 : Nat} {x1 : Int32} {x2 : Int32} {k11 : Int64 → Int32 → zM → Option (Int64 × zM)} {x5 : Int32} {s0 : Int64} {s1 : Int64} {M MO : zM} {v : Int64} (h0 : z_tm SH 11 x0) (hk11 : ∀ (x3 : Int64) (x5 : Int32) (M : zM), k11 x3 x5 M = some (v, MO) → zA l yX12_belowOf cX12_belowOf 6 (some .long) 4 0 0 SH.length (zDl SH v MO) 0 0 11 [(0, .ref x0), (1, .int x1), (2, .int x2), (3, .long x3), (5, .int x5)] [] SH M) (hf : f_X12_belowOf_58 x0 x1 x2 k11 x5 s0 s1 M = some (v, MO)) : zA l yX12_belowOf cX12_belowOf 6 (some .long) 4 0 0 SH.length (zDl SH v MO) 0 0 58 [(0, .ref x0), (1, .int x1), (2, .int x2), (5, .int x5)] [.long s1, .long s0] SH M := by
  unfold f_X12_belowOf_58 at hf
  refine z_ladd dX12_belowOf_58 ?_
  obtain ⟨x3_1, ex3_1, hf⟩ := zl_some hf
  refine z_lstore_n' (lv' := [(3, .long x3_1), (0, .ref x0), (1, .int x1), (2, .int x2), (5, .int x5)]) rfl dX12_belowOf_59 (by decide) ex3_1 rfl ?_
  refine zA.pick [(0, .ref x0), (1, .int x1), (2, .int x2), (3, .long x3_1), (5, .int x5)] [1, 2, 3, 0, 4] rfl ?_
  exact t_X12_belowOf_60 h0 hk11 hf
noncomputable def f_X12_belowOf_11 (x0 : Nat) (x1 : Int32) (x2 : Int32) : Nat → Int64 → Int32 → zM → Option (Int64 × zM)
  | 0, _, _, _ => none
  | n + 1, x3, x5, M =>
    (if ((x1 / 4) * 4) ≤ x5 then some (x3, M) else (if x5 < 0 then (f_X12_belowOf_60 x0 x1 x2 (f_X12_belowOf_11 x0 x1 x2 n) x3 x5 M) else z_call (f_X12_above x0 x5 M) fun v_3 M_4 => (if v_3 = x1 then (if x2 = 0 then z_rd (M_4.2.1 x0 34) fun a_8 => if z_ix x5 (z_ln SH a_8) = true then (f_X12_belowOf_58 x0 x1 x2 (f_X12_belowOf_11 x0 x1 x2 n) x5 x3 (M_4.2.2 a_8 (x5 : Int32).toNatClampNeg) M_4) else none else z_rd (M_4.2.1 x0 33) fun a_10 => if z_ix x5 (z_ln SH a_10) = true then (f_X12_belowOf_58 x0 x1 x2 (f_X12_belowOf_11 x0 x1 x2 n) x5 x3 (M_4.2.2 a_10 (x5 : Int32).toNatClampNeg) M_4) else none) else (f_X12_belowOf_60 x0 x1 x2 (f_X12_belowOf_11 x0 x1 x2 n) x3 x5 M_4))))
set_option maxHeartbeats 2000000 in
set_option maxRecDepth 20000 in
theorem t_X12_belowOf_11 {l : Launch} {x0 : Nat} {x1 : Int32} {x2 : Int32} {MO : zM} {v : Int64} (h0 : z_tm SH 11 x0) : ∀ (n : Nat) (x3 : Int64) (x5 : Int32) (M : zM), f_X12_belowOf_11 x0 x1 x2 n x3 x5 M = some (v, MO) → zA l yX12_belowOf cX12_belowOf 6 (some .long) 4 0 0 SH.length (zDl SH v MO) 0 0 11 [(0, .ref x0), (1, .int x1), (2, .int x2), (3, .long x3), (5, .int x5)] [] SH M := by
  intro n
  induction n with
  | zero =>
    intro x3 x5 M hf
    rw [f_X12_belowOf_11] at hf
    cases hf
  | succ n ih =>
    intro x3 x5 M hf
    rw [f_X12_belowOf_11] at hf
    refine z_iload dX12_belowOf_11 rfl ?_
    refine z_iload_n dX12_belowOf_13 rfl rfl ?_
    refine z_iconst (v := 4) dX12_belowOf_14 (by decide) ?_
    refine z_idiv dX12_belowOf_15 (by decide) ?_
    refine z_iconst (v := 4) dX12_belowOf_16 (by decide) ?_
    refine z_imul dX12_belowOf_17 ?_
    refine z_icmp_ge (tgt := 66) dX12_belowOf_18 (by decide) (fun q_1 => ?_) (fun q_1 => ?_)
    · have hf := (if_pos q_1).symm.trans hf
      refine z_lload_n dX12_belowOf_66 rfl rfl ?_
      obtain ⟨rfl, rfl⟩ := z_end hf
      exact z_lret ⟨rfl, rfl, rfl⟩ rfl dX12_belowOf_67
    · have hf := (if_neg q_1).symm.trans hf
      refine z_iload dX12_belowOf_21 rfl ?_
      refine z_if_lt (tgt := 60) dX12_belowOf_23 (by decide) (fun q_2 => ?_) (fun q_2 => ?_)
      · have hf := (if_pos q_2).symm.trans hf
        exact t_X12_belowOf_60 h0 ih hf
      · have hf := (if_neg q_2).symm.trans hf
        refine z_aload_n dX12_belowOf_26 rfl rfl ?_
        refine z_iload dX12_belowOf_27 rfl ?_
        obtain ⟨v_3, M_4, c_5, hf⟩ := z_call_some hf
        refine z_cVi (t_X12_above h0 c_5) kw_X12_above lk_X12_255 h0 rfl (by decide) rfl (Nat.le_of_ble_eq_true rfl) ⟨Nat.le_refl 0, Nat.le_refl 0⟩ dX12_belowOf_29 ?_
        refine z_iload_n dX12_belowOf_32 rfl rfl ?_
        refine z_icmp_ne (tgt := 60) dX12_belowOf_33 (by decide) (fun q_6 => ?_) (fun q_6 => ?_)
        · have hf := (if_neg q_6).symm.trans hf
          exact t_X12_belowOf_60 h0 ih hf
        · have hf := (if_pos q_6).symm.trans hf
          refine z_lload_n dX12_belowOf_36 rfl rfl ?_
          refine z_iload_n dX12_belowOf_37 rfl rfl ?_
          refine z_if_eq (tgt := 51) dX12_belowOf_38 (by decide) (fun q_7 => ?_) (fun q_7 => ?_)
          · have hf := (if_pos q_7).symm.trans hf
            refine z_aload_n dX12_belowOf_51 rfl rfl ?_
            obtain ⟨a_8, ra_8, hf⟩ := z_rd_some hf
            refine zgR fl_X12_72 h0 (fun _ => rfl) ra_8 dX12_belowOf_52 (fun ha_8 => ?_)
            refine z_iload dX12_belowOf_55 rfl ?_
            obtain ⟨g_9, hf⟩ := z_ifs hf
            refine z_lald ha_8 g_9 rfl dX12_belowOf_57 ?_
            refine zA.pick [(0, .ref x0), (1, .int x1), (2, .int x2), (5, .int x5)] [0, 1, 2, 4] rfl ?_
            exact t_X12_belowOf_58 h0 ih hf
          · have hf := (if_neg q_7).symm.trans hf
            refine z_aload_n dX12_belowOf_41 rfl rfl ?_
            obtain ⟨a_10, ra_10, hf⟩ := z_rd_some hf
            refine zgR fl_X12_68 h0 (fun _ => rfl) ra_10 dX12_belowOf_42 (fun ha_10 => ?_)
            refine z_iload dX12_belowOf_45 rfl ?_
            obtain ⟨g_11, hf⟩ := z_ifs hf
            refine z_lald ha_10 g_11 rfl dX12_belowOf_47 ?_
            refine z_goto (tgt := 58) dX12_belowOf_48 (by decide) ?_
            refine zA.pick [(0, .ref x0), (1, .int x1), (2, .int x2), (5, .int x5)] [0, 1, 2, 4] rfl ?_
            exact t_X12_belowOf_58 h0 ih hf
noncomputable def f_X12_belowOf (x0 : Nat) (x1 : Int32) (x2 : Int32) (M : zM) : Option (Int64 × zM) :=
  zl ((((x1 / 4) * 4) - 4)) fun x5_1 => (f_X12_belowOf_11 x0 x1 x2 zF 0 x5_1 M)
set_option maxHeartbeats 2000000 in
set_option maxRecDepth 20000 in
theorem t_X12_belowOf {l : Launch} {x0 : Nat} {x1 : Int32} {x2 : Int32} {M MO : zM} {v : Int64} (h0 : z_tm SH 11 x0) (hf : f_X12_belowOf x0 x1 x2 M = some (v, MO)) : zMet l yX12_belowOf cX12_belowOf 6 (some .long) 4 0 0 [.ref x0, .int x1, .int x2] SH M (zDl SH v MO) := by
  refine zMet.of (by decide +kernel) (Nat.le_of_ble_eq_true rfl) (Or.inr (Or.inr (Or.inr rfl))) ?_
  show zA l yX12_belowOf cX12_belowOf 6 (some .long) 4 0 0 SH.length (zDl SH v MO) 0 0 0 [(0, .ref x0), (1, .int x1), (2, .int x2)] [] SH M
  unfold f_X12_belowOf at hf
  refine z_lconst (v := 0) dX12_belowOf_0 (by decide) ?_
  refine z_lstore_n' (lv' := [(3, .long 0), (0, .ref x0), (1, .int x1), (2, .int x2)]) rfl dX12_belowOf_1 (by decide) rfl rfl ?_
  refine z_iload_n dX12_belowOf_2 rfl rfl ?_
  refine z_iconst (v := 4) dX12_belowOf_3 (by decide) ?_
  refine z_idiv dX12_belowOf_4 (by decide) ?_
  refine z_iconst (v := 4) dX12_belowOf_5 (by decide) ?_
  refine z_imul dX12_belowOf_6 ?_
  refine z_iconst (v := 4) dX12_belowOf_7 (by decide) ?_
  refine z_isub dX12_belowOf_8 ?_
  obtain ⟨x5_1, ex5_1, hf⟩ := zl_some hf
  refine z_istore' (lv' := [(5, .int x5_1), (3, .long 0), (0, .ref x0), (1, .int x1), (2, .int x2)]) dX12_belowOf_9 (by decide) ex5_1 rfl ?_
  refine zA.pick [(0, .ref x0), (1, .int x1), (2, .int x2), (3, .long 0), (5, .int x5_1)] [2, 3, 4, 1, 0] rfl ?_
  exact t_X12_belowOf_11 h0 zF 0 x5_1 M hf
noncomputable def f_X12_bestOf_42 (x0 : Nat) (x1 : Int32) (x4 : Int64) (M : zM) : Option (Int64 × zM) :=
  z_call (f_X12_belowOf x0 x1 1 M) fun v_1 M_2 => (if 0 ≤ (lg_cmp v_1 x4) then some (x4, M_2) else some (v_1, M_2))
set_option maxHeartbeats 2000000 in
set_option maxRecDepth 20000 in
theorem t_X12_bestOf_42 {l : Launch} {x0 : Nat} {x1 : Int32} {x4 : Int64} {M MO : zM} {v : Int64} (h0 : z_tm SH 11 x0) (hf : f_X12_bestOf_42 x0 x1 x4 M = some (v, MO)) : zA l yX12_bestOf cX12_bestOf 8 (some .long) 5 0 0 SH.length (zDl SH v MO) 0 0 42 [(0, .ref x0), (1, .int x1), (4, .long x4)] [] SH M := by
  unfold f_X12_bestOf_42 at hf
  refine z_aload_n dX12_bestOf_42 rfl rfl ?_
  refine z_iload_n dX12_bestOf_43 rfl rfl ?_
  refine z_iconst (v := 1) dX12_bestOf_44 (by decide) ?_
  obtain ⟨v_1, M_2, c_3, hf⟩ := z_call_some hf
  refine z_cVl (t_X12_belowOf h0 c_3) kw_X12_belowOf lk_X12_319 h0 rfl (by decide) rfl (Nat.le_of_ble_eq_true rfl) ⟨Nat.le_refl 0, Nat.le_refl 0⟩ dX12_bestOf_45 ?_
  refine z_lstore' (lv' := [(6, .long v_1), (0, .ref x0), (1, .int x1), (4, .long x4)]) dX12_bestOf_48 (by decide) rfl rfl ?_
  refine z_lload dX12_bestOf_50 rfl ?_
  refine z_lload dX12_bestOf_52 rfl ?_
  refine z_lcmp dX12_bestOf_54 ?_
  refine z_if_ge (tgt := 63) dX12_bestOf_55 (by decide) (fun q_4 => ?_) (fun q_4 => ?_)
  · have hf := (if_pos q_4).symm.trans hf
    refine z_lload dX12_bestOf_63 rfl ?_
    obtain ⟨rfl, rfl⟩ := z_end hf
    exact z_lret ⟨rfl, rfl, rfl⟩ rfl dX12_bestOf_65
  · have hf := (if_neg q_4).symm.trans hf
    refine z_lload dX12_bestOf_58 rfl ?_
    refine z_goto (tgt := 65) dX12_bestOf_60 (by decide) ?_
    obtain ⟨rfl, rfl⟩ := z_end hf
    exact z_lret ⟨rfl, rfl, rfl⟩ rfl dX12_bestOf_65
noncomputable def f_X12_bestOf (x0 : Nat) (x1 : Int32) (x2 : Int32) (x3 : Int32) (M : zM) : Option (Int64 × zM) :=
  z_call (f_X12_takesIn x0 x1 M) fun v_1 M_2 => (if v_1 = 0 then z_call (f_X12_belowOf x0 x1 x3 M_2) fun v_11 M_12 => some (v_11, M_12) else z_call (f_X12_belowOf x0 x1 x3 M_2) fun v_5 M_6 => zl (((16777216 + ((1 : Int64) <<< ((x1 : Int32).toInt64 &&& 63))) + v_5)) fun x4_8 => (if x2 = 0 then (f_X12_bestOf_42 x0 x1 x4_8 M_6) else (if x3 = 0 then (f_X12_bestOf_42 x0 x1 x4_8 M_6) else some (x4_8, M_6))))
set_option maxHeartbeats 2000000 in
set_option maxRecDepth 20000 in
theorem t_X12_bestOf {l : Launch} {x0 : Nat} {x1 : Int32} {x2 : Int32} {x3 : Int32} {M MO : zM} {v : Int64} (h0 : z_tm SH 11 x0) (hf : f_X12_bestOf x0 x1 x2 x3 M = some (v, MO)) : zMet l yX12_bestOf cX12_bestOf 8 (some .long) 5 0 0 [.ref x0, .int x1, .int x2, .int x3] SH M (zDl SH v MO) := by
  refine zMet.of (by decide +kernel) (Nat.le_of_ble_eq_true rfl) (Or.inr (Or.inr (Or.inr rfl))) ?_
  show zA l yX12_bestOf cX12_bestOf 8 (some .long) 5 0 0 SH.length (zDl SH v MO) 0 0 0 [(0, .ref x0), (1, .int x1), (2, .int x2), (3, .int x3)] [] SH M
  unfold f_X12_bestOf at hf
  refine z_aload_n dX12_bestOf_0 rfl rfl ?_
  refine z_iload_n dX12_bestOf_1 rfl rfl ?_
  obtain ⟨v_1, M_2, c_3, hf⟩ := z_call_some hf
  refine z_cVi (t_X12_takesIn h0 c_3) kw_X12_takesIn lk_X12_268 h0 rfl (by decide) rfl (Nat.le_of_ble_eq_true rfl) ⟨Nat.le_refl 0, Nat.le_refl 0⟩ dX12_bestOf_2 ?_
  refine z_if_ne (tgt := 15) dX12_bestOf_5 (by decide) (fun q_4 => ?_) (fun q_4 => ?_)
  · have hf := (if_neg q_4).symm.trans hf
    refine z_ldc2 (v := 16777216) dX12_bestOf_15 cn_X12_323 ?_
    refine z_lconst (v := 1) dX12_bestOf_18 (by decide) ?_
    refine z_iload_n dX12_bestOf_19 rfl rfl ?_
    refine z_lshl dX12_bestOf_20 ?_
    refine z_ladd dX12_bestOf_21 ?_
    refine z_aload_n dX12_bestOf_22 rfl rfl ?_
    refine z_iload_n dX12_bestOf_23 rfl rfl ?_
    refine z_iload_n dX12_bestOf_24 rfl rfl ?_
    obtain ⟨v_5, M_6, c_7, hf⟩ := z_call_some hf
    refine z_cVl (t_X12_belowOf h0 c_7) kw_X12_belowOf lk_X12_319 h0 rfl (by decide) rfl (Nat.le_of_ble_eq_true rfl) ⟨Nat.le_refl 0, Nat.le_refl 0⟩ dX12_bestOf_25 ?_
    refine z_ladd dX12_bestOf_28 ?_
    obtain ⟨x4_8, ex4_8, hf⟩ := zl_some hf
    refine z_lstore' (lv' := [(4, .long x4_8), (0, .ref x0), (1, .int x1), (2, .int x2), (3, .int x3)]) dX12_bestOf_29 (by decide) ex4_8 rfl ?_
    refine z_iload_n dX12_bestOf_31 rfl rfl ?_
    refine z_if_eq (tgt := 42) dX12_bestOf_32 (by decide) (fun q_9 => ?_) (fun q_9 => ?_)
    · have hf := (if_pos q_9).symm.trans hf
      refine zA.pick [(0, .ref x0), (1, .int x1), (4, .long x4_8)] [1, 2, 0] rfl ?_
      exact t_X12_bestOf_42 h0 hf
    · have hf := (if_neg q_9).symm.trans hf
      refine z_iload_n dX12_bestOf_35 rfl rfl ?_
      refine z_if_eq (tgt := 42) dX12_bestOf_36 (by decide) (fun q_10 => ?_) (fun q_10 => ?_)
      · have hf := (if_pos q_10).symm.trans hf
        refine zA.pick [(0, .ref x0), (1, .int x1), (4, .long x4_8)] [1, 2, 0] rfl ?_
        exact t_X12_bestOf_42 h0 hf
      · have hf := (if_neg q_10).symm.trans hf
        refine z_lload dX12_bestOf_39 rfl ?_
        obtain ⟨rfl, rfl⟩ := z_end hf
        exact z_lret ⟨rfl, rfl, rfl⟩ rfl dX12_bestOf_41
  · have hf := (if_pos q_4).symm.trans hf
    refine z_aload_n dX12_bestOf_8 rfl rfl ?_
    refine z_iload_n dX12_bestOf_9 rfl rfl ?_
    refine z_iload_n dX12_bestOf_10 rfl rfl ?_
    obtain ⟨v_11, M_12, c_13, hf⟩ := z_call_some hf
    refine z_cVl (t_X12_belowOf h0 c_13) kw_X12_belowOf lk_X12_319 h0 rfl (by decide) rfl (Nat.le_of_ble_eq_true rfl) ⟨Nat.le_refl 0, Nat.le_refl 0⟩ dX12_bestOf_11 ?_
    obtain ⟨rfl, rfl⟩ := z_end hf
    exact z_lret ⟨rfl, rfl, rfl⟩ rfl dX12_bestOf_14
noncomputable def f_X12_stockings_92 (x0 : Nat) (x1 : Int32) (x2 : Int32) (k27 : Int64 → Int32 → zM → Option (Int32 × zM)) (x3 : Int64) (x5 : Int32) (M : zM) : Option (Int32 × zM) :=
  zl (x5 + 1) fun x5_1 => (k27 x3 x5_1 M)
set_option maxHeartbeats 2000000 in
set_option maxRecDepth 20000 in
theorem t_X12_stockings_92 {l : Launch} {x0 : Nat} {x1 : Int32} {x2 : Int32} {k27 : Int64 → Int32 → zM → Option (Int32 × zM)} {x3 : Int64} {x5 : Int32} {M MO : zM} {v : Int32} (h0 : z_tm SH 11 x0) (hk27 : ∀ (x3 : Int64) (x5 : Int32) (M : zM), k27 x3 x5 M = some (v, MO) → zA l yX12_stockings cX12_stockings 6 (some .int) 6 0 0 SH.length (zDi SH v MO) 0 0 27 [(0, .ref x0), (1, .int x1), (2, .int x2), (3, .long x3), (5, .int x5)] [] SH M) (hf : f_X12_stockings_92 x0 x1 x2 k27 x3 x5 M = some (v, MO)) : zA l yX12_stockings cX12_stockings 6 (some .int) 6 0 0 SH.length (zDi SH v MO) 0 0 92 [(0, .ref x0), (1, .int x1), (2, .int x2), (3, .long x3), (5, .int x5)] [] SH M := by
  unfold f_X12_stockings_92 at hf
  obtain ⟨x5_1, ex5_1, hf⟩ := zl_some hf
  refine z_iinc' (lv' := [(5, .int x5_1), (0, .ref x0), (1, .int x1), (2, .int x2), (3, .long x3)]) dX12_stockings_92 rfl (by decide) ex5_1 (by decide) rfl ?_
  refine z_goto (tgt := 27) dX12_stockings_95 (by decide) ?_
  refine zA.pick [(0, .ref x0), (1, .int x1), (2, .int x2), (3, .long x3), (5, .int x5_1)] [1, 2, 3, 4, 0] rfl ?_
  exact hk27 x3 x5_1 M hf
noncomputable def f_X12_stockings_27 (x0 : Nat) (x1 : Int32) (x2 : Int32) : Nat → Int64 → Int32 → zM → Option (Int32 × zM)
  | 0, _, _, _ => none
  | n + 1, x3, x5, M =>
    (if 24 ≤ x5 then (if x2 = 0 then some (((x3 / 16777216) : Int64).toInt32, M) else some (((x3 - x3 / 16777216 * 16777216) : Int64).toInt32, M)) else z_rd (M.2.1 x0 33) fun a_3 => z_call (f_X12_has x1 x5 M) fun v_4 M_5 => z_call (f_X12_bestOf x0 x5 v_4 1 M_5) fun v_7 M_8 => if z_ix x5 (z_ln SH a_3) = true then zl (M_8.1, M_8.2.1, zu M_8.2.2 a_3 (x5 : Int32).toNatClampNeg v_7) fun M_11 => z_rd (M_11.2.1 x0 34) fun a_12 => z_call (f_X12_has x1 x5 M_11) fun v_13 M_14 => z_call (f_X12_bestOf x0 x5 v_13 0 M_14) fun v_16 M_17 => if z_ix x5 (z_ln SH a_12) = true then zl (M_17.1, M_17.2.1, zu M_17.2.2 a_12 (x5 : Int32).toNatClampNeg v_16) fun M_20 => (if (x5 / 4) = 5 then z_rd (M_20.2.1 x0 34) fun a_22 => if z_ix x5 (z_ln SH a_22) = true then zl ((x3 + (M_20.2.2 a_22 (x5 : Int32).toNatClampNeg))) fun x3_24 => (f_X12_stockings_92 x0 x1 x2 (f_X12_stockings_27 x0 x1 x2 n) x3_24 x5 M_20) else none else (f_X12_stockings_92 x0 x1 x2 (f_X12_stockings_27 x0 x1 x2 n) x3 x5 M_20)) else none else none)
set_option maxHeartbeats 2000000 in
set_option maxRecDepth 20000 in
theorem t_X12_stockings_27 {l : Launch} {x0 : Nat} {x1 : Int32} {x2 : Int32} {MO : zM} {v : Int32} (h0 : z_tm SH 11 x0) : ∀ (n : Nat) (x3 : Int64) (x5 : Int32) (M : zM), f_X12_stockings_27 x0 x1 x2 n x3 x5 M = some (v, MO) → zA l yX12_stockings cX12_stockings 6 (some .int) 6 0 0 SH.length (zDi SH v MO) 0 0 27 [(0, .ref x0), (1, .int x1), (2, .int x2), (3, .long x3), (5, .int x5)] [] SH M := by
  intro n
  induction n with
  | zero =>
    intro x3 x5 M hf
    rw [f_X12_stockings_27] at hf
    cases hf
  | succ n ih =>
    intro x3 x5 M hf
    rw [f_X12_stockings_27] at hf
    refine z_iload dX12_stockings_27 rfl ?_
    refine z_bipush (v := 24) dX12_stockings_29 (by decide) ?_
    refine z_icmp_ge (tgt := 98) dX12_stockings_31 (by decide) (fun q_1 => ?_) (fun q_1 => ?_)
    · have hf := (if_pos q_1).symm.trans hf
      refine z_iload_n dX12_stockings_98 rfl rfl ?_
      refine z_if_ne (tgt := 110) dX12_stockings_99 (by decide) (fun q_2 => ?_) (fun q_2 => ?_)
      · have hf := (if_neg q_2).symm.trans hf
        refine z_lload_n dX12_stockings_110 rfl rfl ?_
        refine z_ldc2 (v := 16777216) dX12_stockings_111 cn_X12_323 ?_
        refine z_lrem dX12_stockings_114 (by decide) ?_
        refine z_l2i dX12_stockings_115 ?_
        obtain ⟨rfl, rfl⟩ := z_end hf
        exact z_iret ⟨rfl, rfl, rfl⟩ (Or.inl rfl) dX12_stockings_116
      · have hf := (if_pos q_2).symm.trans hf
        refine z_lload_n dX12_stockings_102 rfl rfl ?_
        refine z_ldc2 (v := 16777216) dX12_stockings_103 cn_X12_323 ?_
        refine z_ldiv dX12_stockings_106 (by decide) ?_
        refine z_goto (tgt := 115) dX12_stockings_107 (by decide) ?_
        refine z_l2i dX12_stockings_115 ?_
        obtain ⟨rfl, rfl⟩ := z_end hf
        exact z_iret ⟨rfl, rfl, rfl⟩ (Or.inl rfl) dX12_stockings_116
    · have hf := (if_neg q_1).symm.trans hf
      refine z_aload_n dX12_stockings_34 rfl rfl ?_
      obtain ⟨a_3, ra_3, hf⟩ := z_rd_some hf
      refine zgR fl_X12_68 h0 (fun _ => rfl) ra_3 dX12_stockings_35 (fun ha_3 => ?_)
      refine z_iload dX12_stockings_38 rfl ?_
      refine z_aload_n dX12_stockings_40 rfl rfl ?_
      refine z_iload dX12_stockings_41 rfl ?_
      refine z_iload_n dX12_stockings_43 rfl rfl ?_
      refine z_iload dX12_stockings_44 rfl ?_
      obtain ⟨v_4, M_5, c_6, hf⟩ := z_call_some hf
      refine z_cSi (t_X12_has  c_6) kw_X12_has lk_X12_326 rfl (by decide) rfl (Nat.le_of_ble_eq_true rfl) ⟨Nat.le_refl 0, Nat.le_refl 0⟩ dX12_stockings_46 ?_
      refine z_iconst (v := 1) dX12_stockings_49 (by decide) ?_
      obtain ⟨v_7, M_8, c_9, hf⟩ := z_call_some hf
      refine z_cVl (t_X12_bestOf h0 c_9) kw_X12_bestOf lk_X12_329 h0 rfl (by decide) rfl (Nat.le_of_ble_eq_true rfl) ⟨Nat.le_refl 0, Nat.le_refl 0⟩ dX12_stockings_50 ?_
      obtain ⟨g_10, hf⟩ := z_ifs hf
      obtain ⟨M_11, eM_11, hf⟩ := zl_some hf
      refine z_last ha_3 g_10 eM_11 dX12_stockings_53 ?_
      refine z_aload_n dX12_stockings_54 rfl rfl ?_
      obtain ⟨a_12, ra_12, hf⟩ := z_rd_some hf
      refine zgR fl_X12_72 h0 (fun _ => rfl) ra_12 dX12_stockings_55 (fun ha_12 => ?_)
      refine z_iload dX12_stockings_58 rfl ?_
      refine z_aload_n dX12_stockings_60 rfl rfl ?_
      refine z_iload dX12_stockings_61 rfl ?_
      refine z_iload_n dX12_stockings_63 rfl rfl ?_
      refine z_iload dX12_stockings_64 rfl ?_
      obtain ⟨v_13, M_14, c_15, hf⟩ := z_call_some hf
      refine z_cSi (t_X12_has  c_15) kw_X12_has lk_X12_326 rfl (by decide) rfl (Nat.le_of_ble_eq_true rfl) ⟨Nat.le_refl 0, Nat.le_refl 0⟩ dX12_stockings_66 ?_
      refine z_iconst (v := 0) dX12_stockings_69 (by decide) ?_
      obtain ⟨v_16, M_17, c_18, hf⟩ := z_call_some hf
      refine z_cVl (t_X12_bestOf h0 c_18) kw_X12_bestOf lk_X12_329 h0 rfl (by decide) rfl (Nat.le_of_ble_eq_true rfl) ⟨Nat.le_refl 0, Nat.le_refl 0⟩ dX12_stockings_70 ?_
      obtain ⟨g_19, hf⟩ := z_ifs hf
      obtain ⟨M_20, eM_20, hf⟩ := zl_some hf
      refine z_last ha_12 g_19 eM_20 dX12_stockings_73 ?_
      refine z_iload dX12_stockings_74 rfl ?_
      refine z_iconst (v := 4) dX12_stockings_76 (by decide) ?_
      refine z_idiv dX12_stockings_77 (by decide) ?_
      refine z_iconst (v := 5) dX12_stockings_78 (by decide) ?_
      refine z_icmp_ne (tgt := 92) dX12_stockings_79 (by decide) (fun q_21 => ?_) (fun q_21 => ?_)
      · have hf := (if_neg q_21).symm.trans hf
        exact t_X12_stockings_92 h0 ih hf
      · have hf := (if_pos q_21).symm.trans hf
        refine z_lload_n dX12_stockings_82 rfl rfl ?_
        refine z_aload_n dX12_stockings_83 rfl rfl ?_
        obtain ⟨a_22, ra_22, hf⟩ := z_rd_some hf
        refine zgR fl_X12_72 h0 (fun _ => rfl) ra_22 dX12_stockings_84 (fun ha_22 => ?_)
        refine z_iload dX12_stockings_87 rfl ?_
        obtain ⟨g_23, hf⟩ := z_ifs hf
        refine z_lald ha_22 g_23 rfl dX12_stockings_89 ?_
        refine z_ladd dX12_stockings_90 ?_
        obtain ⟨x3_24, ex3_24, hf⟩ := zl_some hf
        refine z_lstore_n' (lv' := [(3, .long x3_24), (0, .ref x0), (1, .int x1), (2, .int x2), (5, .int x5)]) rfl dX12_stockings_91 (by decide) ex3_24 rfl ?_
        refine zA.pick [(0, .ref x0), (1, .int x1), (2, .int x2), (3, .long x3_24), (5, .int x5)] [1, 2, 3, 0, 4] rfl ?_
        exact t_X12_stockings_92 h0 ih hf
noncomputable def f_X12_stockings (x0 : Nat) (x1 : Int32) (x2 : Int32) (M : zM) : Option (Int32 × zM) :=
  z_call (f_X12_in x1 0 16777215 M) fun v_1 M_2 => (if v_1 = 0 then some ((-1), M_2) else z_call (f_X12_in x2 0 1 M_2) fun v_5 M_6 => (if v_5 = 0 then some ((-1), M_6) else (f_X12_stockings_27 x0 x1 x2 zF 0 0 M_6)))
set_option maxHeartbeats 2000000 in
set_option maxRecDepth 20000 in
theorem t_X12_stockings {l : Launch} {x0 : Nat} {x1 : Int32} {x2 : Int32} {M MO : zM} {v : Int32} (h0 : z_tm SH 11 x0) (hf : f_X12_stockings x0 x1 x2 M = some (v, MO)) : zMet l yX12_stockings cX12_stockings 6 (some .int) 6 0 0 [.ref x0, .int x1, .int x2] SH M (zDi SH v MO) := by
  refine zMet.of (by decide +kernel) (Nat.le_of_ble_eq_true rfl) (Or.inr (Or.inl rfl)) ?_
  show zA l yX12_stockings cX12_stockings 6 (some .int) 6 0 0 SH.length (zDi SH v MO) 0 0 0 [(0, .ref x0), (1, .int x1), (2, .int x2)] [] SH M
  unfold f_X12_stockings at hf
  refine z_iload_n dX12_stockings_0 rfl rfl ?_
  refine z_iconst (v := 0) dX12_stockings_1 (by decide) ?_
  refine z_ldcw (v := 16777215) dX12_stockings_2 cn_X12_325 ?_
  obtain ⟨v_1, M_2, c_3, hf⟩ := z_call_some hf
  refine z_cSi (t_X12_in  c_3) kw_X12_in lk_X12_90 rfl (by decide) rfl (Nat.le_of_ble_eq_true rfl) ⟨Nat.le_refl 0, Nat.le_refl 0⟩ dX12_stockings_5 ?_
  refine z_if_eq (tgt := 20) dX12_stockings_8 (by decide) (fun q_4 => ?_) (fun q_4 => ?_)
  · have hf := (if_pos q_4).symm.trans hf
    refine z_iconst (v := (-1)) dX12_stockings_20 (by decide) ?_
    obtain ⟨rfl, rfl⟩ := z_end hf
    exact z_iret ⟨rfl, rfl, rfl⟩ (Or.inl rfl) dX12_stockings_21
  · have hf := (if_neg q_4).symm.trans hf
    refine z_iload_n dX12_stockings_11 rfl rfl ?_
    refine z_iconst (v := 0) dX12_stockings_12 (by decide) ?_
    refine z_iconst (v := 1) dX12_stockings_13 (by decide) ?_
    obtain ⟨v_5, M_6, c_7, hf⟩ := z_call_some hf
    refine z_cSi (t_X12_in  c_7) kw_X12_in lk_X12_90 rfl (by decide) rfl (Nat.le_of_ble_eq_true rfl) ⟨Nat.le_refl 0, Nat.le_refl 0⟩ dX12_stockings_14 ?_
    refine z_if_ne (tgt := 22) dX12_stockings_17 (by decide) (fun q_8 => ?_) (fun q_8 => ?_)
    · have hf := (if_neg q_8).symm.trans hf
      refine z_lconst (v := 0) dX12_stockings_22 (by decide) ?_
      refine z_lstore_n' (lv' := [(3, .long 0), (0, .ref x0), (1, .int x1), (2, .int x2)]) rfl dX12_stockings_23 (by decide) rfl rfl ?_
      refine z_iconst (v := 0) dX12_stockings_24 (by decide) ?_
      refine z_istore' (lv' := [(5, .int 0), (3, .long 0), (0, .ref x0), (1, .int x1), (2, .int x2)]) dX12_stockings_25 (by decide) rfl rfl ?_
      refine zA.pick [(0, .ref x0), (1, .int x1), (2, .int x2), (3, .long 0), (5, .int 0)] [2, 3, 4, 1, 0] rfl ?_
      exact t_X12_stockings_27 h0 zF 0 0 M_6 hf
    · have hf := (if_pos q_8).symm.trans hf
      refine z_iconst (v := (-1)) dX12_stockings_20 (by decide) ?_
      obtain ⟨rfl, rfl⟩ := z_end hf
      exact z_iret ⟨rfl, rfl, rfl⟩ (Or.inl rfl) dX12_stockings_21
noncomputable def f_X12_changesWho (x0 : Nat) (x1 : Int32) (x2 : Int32) (M : zM) : Option (Unit × zM) :=
  z_rd (M.2.1 x0 35) fun a_1 => if z_ix x1 (z_ln SH a_1) = true then zl ((M.1 a_1 (x1 : Int32).toNatClampNeg)) fun x3_3 => z_rd (M.2.1 x0 35) fun a_4 => z_rd (M.2.1 x0 35) fun a_5 => if z_ix x2 (z_ln SH a_5) = true then if z_ix x1 (z_ln SH a_4) = true then zl (zu M.1 a_4 (x1 : Int32).toNatClampNeg (M.1 a_5 (x2 : Int32).toNatClampNeg), M.2) fun M_8 => z_rd (M_8.2.1 x0 35) fun a_9 => if z_ix x2 (z_ln SH a_9) = true then zl (zu M_8.1 a_9 (x2 : Int32).toNatClampNeg x3_3, M_8.2) fun M_11 => some ((), M_11) else none else none else none else none
set_option maxHeartbeats 2000000 in
set_option maxRecDepth 20000 in
theorem t_X12_changesWho {l : Launch} {x0 : Nat} {x1 : Int32} {x2 : Int32} {M MO : zM} {v : Unit} (h0 : z_tm SH 11 x0) (hf : f_X12_changesWho x0 x1 x2 M = some (v, MO)) : zMet l yX12_changesWho cX12_changesWho 4 none 1 0 0 [.ref x0, .int x1, .int x2] SH M (zDv SH MO) := by
  refine zMet.of (by decide +kernel) (Nat.le_of_ble_eq_true rfl) (Or.inl rfl) ?_
  show zA l yX12_changesWho cX12_changesWho 4 none 1 0 0 SH.length (zDv SH MO) 0 0 0 [(0, .ref x0), (1, .int x1), (2, .int x2)] [] SH M
  unfold f_X12_changesWho at hf
  refine z_aload_n dX12_changesWho_0 rfl rfl ?_
  obtain ⟨a_1, ra_1, hf⟩ := z_rd_some hf
  refine zgR fl_X12_75 h0 (fun _ => rfl) ra_1 dX12_changesWho_1 (fun ha_1 => ?_)
  refine z_iload_n dX12_changesWho_4 rfl rfl ?_
  obtain ⟨g_2, hf⟩ := z_ifs hf
  refine z_iald ha_1 g_2 rfl dX12_changesWho_5 ?_
  obtain ⟨x3_3, ex3_3, hf⟩ := zl_some hf
  refine z_istore_n' (lv' := [(3, .int x3_3), (0, .ref x0), (1, .int x1), (2, .int x2)]) rfl dX12_changesWho_6 (by decide) ex3_3 rfl ?_
  refine z_aload_n dX12_changesWho_7 rfl rfl ?_
  obtain ⟨a_4, ra_4, hf⟩ := z_rd_some hf
  refine zgR fl_X12_75 h0 (fun _ => rfl) ra_4 dX12_changesWho_8 (fun ha_4 => ?_)
  refine z_iload_n dX12_changesWho_11 rfl rfl ?_
  refine z_aload_n dX12_changesWho_12 rfl rfl ?_
  obtain ⟨a_5, ra_5, hf⟩ := z_rd_some hf
  refine zgR fl_X12_75 h0 (fun _ => rfl) ra_5 dX12_changesWho_13 (fun ha_5 => ?_)
  refine z_iload_n dX12_changesWho_16 rfl rfl ?_
  obtain ⟨g_6, hf⟩ := z_ifs hf
  refine z_iald ha_5 g_6 rfl dX12_changesWho_17 ?_
  obtain ⟨g_7, hf⟩ := z_ifs hf
  obtain ⟨M_8, eM_8, hf⟩ := zl_some hf
  refine z_iast ha_4 g_7 eM_8 dX12_changesWho_18 ?_
  refine z_aload_n dX12_changesWho_19 rfl rfl ?_
  obtain ⟨a_9, ra_9, hf⟩ := z_rd_some hf
  refine zgR fl_X12_75 h0 (fun _ => rfl) ra_9 dX12_changesWho_20 (fun ha_9 => ?_)
  refine z_iload_n dX12_changesWho_23 rfl rfl ?_
  refine z_iload_n dX12_changesWho_24 rfl rfl ?_
  obtain ⟨g_10, hf⟩ := z_ifs hf
  obtain ⟨M_11, eM_11, hf⟩ := zl_some hf
  refine z_iast ha_9 g_10 eM_11 dX12_changesWho_25 ?_
  obtain ⟨rfl, rfl⟩ := z_end hf
  exact z_vret ⟨rfl, rfl, rfl⟩ rfl dX12_changesWho_26
