noncomputable def f_X1_share_91 (x0 : Nat) (x3 : Nat) (x4 : Int32) (k47 : Int32 → Int32 → zM → Option (Unit × zM)) (x5 : Int32) (x6 : Int32) (M : zM) : Option (Unit × zM) :=
  zl (x6 + 1) fun x6_1 => (k47 x5 x6_1 M)
set_option maxHeartbeats 2000000 in
set_option maxRecDepth 20000 in
theorem t_X1_share_91 {l : Launch} {x0 : Nat} {x3 : Nat} {x4 : Int32} {k47 : Int32 → Int32 → zM → Option (Unit × zM)} {x5 : Int32} {x6 : Int32} {M MO : zM} {v : Unit} (h0 : z_tm SH 1 x0) (h3 : z_tm SH 8 x3) (hk47 : ∀ (x5 : Int32) (x6 : Int32) (M : zM), k47 x5 x6 M = some (v, MO) → zA l yX1_share cX1_share 7 none 19 0 0 SH.length (zDv SH MO) 0 0 47 [(0, .ref x0), (3, .ref x3), (4, .int x4), (5, .int x5), (6, .int x6)] [] SH M) (hf : f_X1_share_91 x0 x3 x4 k47 x5 x6 M = some (v, MO)) : zA l yX1_share cX1_share 7 none 19 0 0 SH.length (zDv SH MO) 0 0 91 [(0, .ref x0), (3, .ref x3), (4, .int x4), (5, .int x5), (6, .int x6)] [] SH M := by
  unfold f_X1_share_91 at hf
  obtain ⟨x6_1, ex6_1, hf⟩ := zl_some hf
  refine z_iinc' (lv' := [(6, .int x6_1), (0, .ref x0), (3, .ref x3), (4, .int x4), (5, .int x5)]) dX1_share_91 rfl (by decide) ex6_1 (by decide) rfl ?_
  refine z_goto (tgt := 47) dX1_share_94 (by decide) ?_
  refine zA.pick [(0, .ref x0), (3, .ref x3), (4, .int x4), (5, .int x5), (6, .int x6_1)] [1, 2, 3, 4, 0] rfl ?_
  exact hk47 x5 x6_1 M hf
noncomputable def f_X1_share_47 (x0 : Nat) (x3 : Nat) (x4 : Int32) : Nat → Int32 → Int32 → zM → Option (Unit × zM)
  | 0, _, _, _ => none
  | n + 1, x5, x6, M =>
    (if 24 ≤ x6 then zl (M.1, M.2.1, zu M.2.2 x0 5 1099511627776) fun M_2 => z_call (f_X1_fill_r x0 0 0 0 M_2) fun v_3 M_4 => some ((), M_4) else (if (((x4 : Int32) >>> (x6 &&& 31)) &&& 1) = 1 then (if (M.1 x0 4) ≤ x5 then (f_X1_share_91 x0 x3 x4 (f_X1_share_47 x0 x3 x4 n) x5 x6 M) else z_rd (M.2.1 x0 1) fun a_8 => z_rd (M.2.1 x3 4) fun a_9 => if z_ix x6 (z_ln SH a_9) = true then if z_ix x5 (z_ln SH a_8) = true then zl (zu M.1 a_8 (x5 : Int32).toNatClampNeg (M.1 a_9 (x6 : Int32).toNatClampNeg), M.2) fun M_12 => zl (x5 + 1) fun x5_13 => (f_X1_share_91 x0 x3 x4 (f_X1_share_47 x0 x3 x4 n) x5_13 x6 M_12) else none else none) else (f_X1_share_91 x0 x3 x4 (f_X1_share_47 x0 x3 x4 n) x5 x6 M)))
set_option maxHeartbeats 2000000 in
set_option maxRecDepth 20000 in
theorem t_X1_share_47 {l : Launch} {x0 : Nat} {x3 : Nat} {x4 : Int32} {MO : zM} {v : Unit} (h0 : z_tm SH 1 x0) (h3 : z_tm SH 8 x3) : ∀ (n : Nat) (x5 : Int32) (x6 : Int32) (M : zM), f_X1_share_47 x0 x3 x4 n x5 x6 M = some (v, MO) → zA l yX1_share cX1_share 7 none 19 0 0 SH.length (zDv SH MO) 0 0 47 [(0, .ref x0), (3, .ref x3), (4, .int x4), (5, .int x5), (6, .int x6)] [] SH M := by
  intro n
  induction n with
  | zero =>
    intro x5 x6 M hf
    rw [f_X1_share_47] at hf
    cases hf
  | succ n ih =>
    intro x5 x6 M hf
    rw [f_X1_share_47] at hf
    refine z_iload dX1_share_47 rfl ?_
    refine z_bipush (v := 24) dX1_share_49 (by decide) ?_
    refine z_icmp_ge (tgt := 97) dX1_share_51 (by decide) (fun q_1 => ?_) (fun q_1 => ?_)
    · have hf := (if_pos q_1).symm.trans hf
      refine z_aload_n dX1_share_97 rfl rfl ?_
      refine z_ldc2 (v := 1099511627776) dX1_share_98 cn_X1_43 ?_
      obtain ⟨M_2, eM_2, hf⟩ := zl_some hf
      refine zpL fl_X1_45 h0 rfl rfl eM_2 dX1_share_101 ?_
      refine z_aload_n dX1_share_104 rfl rfl ?_
      refine z_iconst (v := 0) dX1_share_105 (by decide) ?_
      refine z_iconst (v := 0) dX1_share_106 (by decide) ?_
      refine z_lconst (v := 0) dX1_share_107 (by decide) ?_
      obtain ⟨v_3, M_4, c_5, hf⟩ := z_call_some hf
      refine z_cVv (t_X1_fill_r h0 c_5) kw_X1_fill lk_X1_49 h0 rfl (by decide) rfl (Nat.le_of_ble_eq_true rfl) ⟨Nat.le_refl 0, Nat.le_refl 0⟩ dX1_share_108 ?_
      obtain ⟨rfl, rfl⟩ := z_end hf
      exact z_vret ⟨rfl, rfl, rfl⟩ rfl dX1_share_111
    · have hf := (if_neg q_1).symm.trans hf
      refine z_iload dX1_share_54 rfl ?_
      refine z_iload dX1_share_56 rfl ?_
      refine z_ishr dX1_share_58 ?_
      refine z_iconst (v := 1) dX1_share_59 (by decide) ?_
      refine z_iand dX1_share_60 ?_
      refine z_iconst (v := 1) dX1_share_61 (by decide) ?_
      refine z_icmp_ne (tgt := 91) dX1_share_62 (by decide) (fun q_6 => ?_) (fun q_6 => ?_)
      · have hf := (if_neg q_6).symm.trans hf
        exact t_X1_share_91 h0 h3 ih hf
      · have hf := (if_pos q_6).symm.trans hf
        refine z_iload dX1_share_65 rfl ?_
        refine z_aload_n dX1_share_67 rfl rfl ?_
        refine zgI fl_X1_30 h0 (fun _ => rfl) dX1_share_68 ?_
        refine z_icmp_ge (tgt := 91) dX1_share_71 (by decide) (fun q_7 => ?_) (fun q_7 => ?_)
        · have hf := (if_pos q_7).symm.trans hf
          exact t_X1_share_91 h0 h3 ih hf
        · have hf := (if_neg q_7).symm.trans hf
          refine z_aload_n dX1_share_74 rfl rfl ?_
          obtain ⟨a_8, ra_8, hf⟩ := z_rd_some hf
          refine zgR fl_X1_15 h0 (fun _ => rfl) ra_8 dX1_share_75 (fun ha_8 => ?_)
          refine z_iload dX1_share_78 rfl ?_
          refine z_aload_n dX1_share_80 rfl rfl ?_
          obtain ⟨a_9, ra_9, hf⟩ := z_rd_some hf
          refine zgR fl_X1_40 h3 (fun _ => rfl) ra_9 dX1_share_81 (fun ha_9 => ?_)
          refine z_iload dX1_share_84 rfl ?_
          obtain ⟨g_10, hf⟩ := z_ifs hf
          refine z_iald ha_9 g_10 rfl dX1_share_86 ?_
          obtain ⟨g_11, hf⟩ := z_ifs hf
          obtain ⟨M_12, eM_12, hf⟩ := zl_some hf
          refine z_iast ha_8 g_11 eM_12 dX1_share_87 ?_
          obtain ⟨x5_13, ex5_13, hf⟩ := zl_some hf
          refine z_iinc' (lv' := [(5, .int x5_13), (0, .ref x0), (3, .ref x3), (4, .int x4), (6, .int x6)]) dX1_share_88 rfl (by decide) ex5_13 (by decide) rfl ?_
          refine zA.pick [(0, .ref x0), (3, .ref x3), (4, .int x4), (5, .int x5_13), (6, .int x6)] [1, 2, 3, 0, 4] rfl ?_
          exact t_X1_share_91 h0 h3 ih hf
noncomputable def f_X1_share_13 (x0 : Nat) (x1 : Nat) (x3 : Nat) (x4 : Int32) : Nat → Int32 → zM → Option (Unit × zM)
  | 0, _, _ => none
  | n + 1, x5, M =>
    (if (M.1 x0 4) ≤ x5 then (f_X1_share_47 x0 x3 x4 zF 0 0 M) else z_rd (M.2.1 x0 0) fun a_2 => z_call (f_X10_byteAt x1 x5 M) fun v_3 M_4 => if z_ix x5 (z_ln SH a_2) = true then zl (zu M_4.1 a_2 (x5 : Int32).toNatClampNeg v_3, M_4.2) fun M_7 => zl (x5 + 1) fun x5_8 => (f_X1_share_13 x0 x1 x3 x4 n x5_8 M_7) else none)
set_option maxHeartbeats 2000000 in
set_option maxRecDepth 20000 in
theorem t_X1_share_13 {l : Launch} {x0 : Nat} {x1 : Nat} {x3 : Nat} {x4 : Int32} {MO : zM} {v : Unit} (h0 : z_tm SH 1 x0) (h1 : z_tm SH 9 x1) (h3 : z_tm SH 8 x3) : ∀ (n : Nat) (x5 : Int32) (M : zM), f_X1_share_13 x0 x1 x3 x4 n x5 M = some (v, MO) → zA l yX1_share cX1_share 7 none 19 0 0 SH.length (zDv SH MO) 0 0 13 [(0, .ref x0), (1, .ref x1), (3, .ref x3), (4, .int x4), (5, .int x5)] [] SH M := by
  intro n
  induction n with
  | zero =>
    intro x5 M hf
    rw [f_X1_share_13] at hf
    cases hf
  | succ n ih =>
    intro x5 M hf
    rw [f_X1_share_13] at hf
    refine z_iload dX1_share_13 rfl ?_
    refine z_aload_n dX1_share_15 rfl rfl ?_
    refine zgI fl_X1_30 h0 (fun _ => rfl) dX1_share_16 ?_
    refine z_icmp_ge (tgt := 41) dX1_share_19 (by decide) (fun q_1 => ?_) (fun q_1 => ?_)
    · have hf := (if_pos q_1).symm.trans hf
      refine z_iconst (v := 0) dX1_share_41 (by decide) ?_
      refine z_istore' (lv' := [(5, .int 0), (0, .ref x0), (1, .ref x1), (3, .ref x3), (4, .int x4)]) dX1_share_42 (by decide) rfl rfl ?_
      refine z_iconst (v := 0) dX1_share_44 (by decide) ?_
      refine z_istore' (lv' := [(6, .int 0), (5, .int 0), (0, .ref x0), (1, .ref x1), (3, .ref x3), (4, .int x4)]) dX1_share_45 (by decide) rfl rfl ?_
      refine zA.pick [(0, .ref x0), (3, .ref x3), (4, .int x4), (5, .int 0), (6, .int 0)] [2, 4, 5, 1, 0] rfl ?_
      exact t_X1_share_47 h0 h3 zF 0 0 M hf
    · have hf := (if_neg q_1).symm.trans hf
      refine z_aload_n dX1_share_22 rfl rfl ?_
      obtain ⟨a_2, ra_2, hf⟩ := z_rd_some hf
      refine zgR fl_X1_9 h0 (fun _ => rfl) ra_2 dX1_share_23 (fun ha_2 => ?_)
      refine z_iload dX1_share_26 rfl ?_
      refine z_aload_n dX1_share_28 rfl rfl ?_
      refine z_iload dX1_share_29 rfl ?_
      obtain ⟨v_3, M_4, c_5, hf⟩ := z_call_some hf
      refine z_cVi (t_X10_byteAt h1 c_5) kw_X10_byteAt lk_X1_34 h1 rfl (by decide) rfl (Nat.le_of_ble_eq_true rfl) ⟨Nat.le_refl 0, Nat.le_refl 0⟩ dX1_share_31 ?_
      obtain ⟨g_6, hf⟩ := z_ifs hf
      obtain ⟨M_7, eM_7, hf⟩ := zl_some hf
      refine z_iast ha_2 g_6 eM_7 dX1_share_34 ?_
      obtain ⟨x5_8, ex5_8, hf⟩ := zl_some hf
      refine z_iinc' (lv' := [(5, .int x5_8), (0, .ref x0), (1, .ref x1), (3, .ref x3), (4, .int x4)]) dX1_share_35 rfl (by decide) ex5_8 (by decide) rfl ?_
      refine z_goto (tgt := 13) dX1_share_38 (by decide) ?_
      refine zA.pick [(0, .ref x0), (1, .ref x1), (3, .ref x3), (4, .int x4), (5, .int x5_8)] [1, 2, 3, 4, 0] rfl ?_
      exact ih x5_8 M_7 hf
noncomputable def f_X1_share (x0 : Nat) (x1 : Nat) (x2 : Int32) (x3 : Nat) (x4 : Int32) (M : zM) : Option (Unit × zM) :=
  zl (zu M.1 x0 4 (z_min x2 6), M.2) fun M_1 => (f_X1_share_13 x0 x1 x3 x4 zF 0 M_1)
set_option maxHeartbeats 2000000 in
set_option maxRecDepth 20000 in
theorem t_X1_share {l : Launch} {x0 : Nat} {x1 : Nat} {x2 : Int32} {x3 : Nat} {x4 : Int32} {M MO : zM} {v : Unit} (h0 : z_tm SH 1 x0) (h1 : z_tm SH 9 x1) (h3 : z_tm SH 8 x3) (hf : f_X1_share x0 x1 x2 x3 x4 M = some (v, MO)) : zMet l yX1_share cX1_share 7 none 19 0 0 [.ref x0, .ref x1, .int x2, .ref x3, .int x4] SH M (zDv SH MO) := by
  refine zMet.of (by decide +kernel) (Nat.le_of_ble_eq_true rfl) (Or.inl rfl) ?_
  show zA l yX1_share cX1_share 7 none 19 0 0 SH.length (zDv SH MO) 0 0 0 [(0, .ref x0), (1, .ref x1), (2, .int x2), (3, .ref x3), (4, .int x4)] [] SH M
  unfold f_X1_share at hf
  refine z_aload_n dX1_share_0 rfl rfl ?_
  refine z_iload_n dX1_share_1 rfl rfl ?_
  refine z_bipush (v := 6) dX1_share_2 (by decide) ?_
  refine z_mmin mm_X1_24 mm_smin mm_ini mm_cmin (by decide) (Nat.le_of_ble_eq_true rfl) dX1_share_4 ?_
  obtain ⟨M_1, eM_1, hf⟩ := zl_some hf
  refine zpI fl_X1_30 h0 rfl (Or.inl rfl) eM_1 dX1_share_7 ?_
  refine z_iconst (v := 0) dX1_share_10 (by decide) ?_
  refine z_istore' (lv' := [(5, .int 0), (0, .ref x0), (1, .ref x1), (2, .int x2), (3, .ref x3), (4, .int x4)]) dX1_share_11 (by decide) rfl rfl ?_
  refine zA.pick [(0, .ref x0), (1, .ref x1), (3, .ref x3), (4, .int x4), (5, .int 0)] [1, 2, 4, 5, 0] rfl ?_
  exact t_X1_share_13 h0 h1 h3 zF 0 M_1 hf
noncomputable def f_X3_learn_15 (x0 : Nat) (x1 : Nat) : Nat → Int32 → Int32 → zM → Option (Int32 × zM)
  | 0, _, _, _ => none
  | n + 1, x3, x4, M =>
    (if (M.1 x0 1) ≤ x4 then some (1, M) else z_call (f_X10_byteAt x1 x4 M) fun v_2 M_3 => (if v_2 < 0 then some (0, M_3) else (if (M_3.1 x0 1) ≤ v_2 then some (0, M_3) else (if (((x3 : Int32) >>> (v_2 &&& 31)) &&& 1) = 1 then some (0, M_3) else zl ((x3 ||| ((1 : Int32) <<< (v_2 &&& 31)))) fun x3_8 => z_rd (M_3.2.1 x0 0) fun a_9 => if z_ix x4 (z_ln SH a_9) = true then zl (zu M_3.1 a_9 (x4 : Int32).toNatClampNeg v_2, M_3.2) fun M_11 => zl (x4 + 1) fun x4_12 => (f_X3_learn_15 x0 x1 n x3_8 x4_12 M_11) else none))))
set_option maxHeartbeats 2000000 in
set_option maxRecDepth 20000 in
theorem t_X3_learn_15 {l : Launch} {x0 : Nat} {x1 : Nat} {MO : zM} {v : Int32} (h0 : z_tm SH 3 x0) (h1 : z_tm SH 9 x1) : ∀ (n : Nat) (x3 : Int32) (x4 : Int32) (M : zM), f_X3_learn_15 x0 x1 n x3 x4 M = some (v, MO) → zA l yX3_learn cX3_learn 6 (some .boolean) 2 0 0 SH.length (zDi SH v MO) 0 0 15 [(0, .ref x0), (1, .ref x1), (3, .int x3), (4, .int x4)] [] SH M := by
  intro n
  induction n with
  | zero =>
    intro x3 x4 M hf
    rw [f_X3_learn_15] at hf
    cases hf
  | succ n ih =>
    intro x3 x4 M hf
    rw [f_X3_learn_15] at hf
    refine z_iload dX3_learn_15 rfl ?_
    refine z_aload_n dX3_learn_17 rfl rfl ?_
    refine zgI fl_X3_21 h0 (fun _ => rfl) dX3_learn_18 ?_
    refine z_icmp_ge (tgt := 80) dX3_learn_21 (by decide) (fun q_1 => ?_) (fun q_1 => ?_)
    · have hf := (if_pos q_1).symm.trans hf
      refine z_iconst (v := 1) dX3_learn_80 (by decide) ?_
      obtain ⟨rfl, rfl⟩ := z_end hf
      exact z_iret ⟨rfl, rfl, rfl⟩ (Or.inr ⟨rfl, (Or.inr rfl)⟩) dX3_learn_81
    · have hf := (if_neg q_1).symm.trans hf
      refine z_aload_n dX3_learn_24 rfl rfl ?_
      refine z_iload dX3_learn_25 rfl ?_
      obtain ⟨v_2, M_3, c_4, hf⟩ := z_call_some hf
      refine z_cVi (t_X10_byteAt h1 c_4) kw_X10_byteAt lk_X3_25 h1 rfl (by decide) rfl (Nat.le_of_ble_eq_true rfl) ⟨Nat.le_refl 0, Nat.le_refl 0⟩ dX3_learn_27 ?_
      refine z_istore' (lv' := [(5, .int v_2), (0, .ref x0), (1, .ref x1), (3, .int x3), (4, .int x4)]) dX3_learn_30 (by decide) rfl rfl ?_
      refine z_iload dX3_learn_32 rfl ?_
      refine z_if_lt (tgt := 56) dX3_learn_34 (by decide) (fun q_5 => ?_) (fun q_5 => ?_)
      · have hf := (if_pos q_5).symm.trans hf
        refine z_iconst (v := 0) dX3_learn_56 (by decide) ?_
        obtain ⟨rfl, rfl⟩ := z_end hf
        exact z_iret ⟨rfl, rfl, rfl⟩ (Or.inr ⟨rfl, (Or.inl rfl)⟩) dX3_learn_57
      · have hf := (if_neg q_5).symm.trans hf
        refine z_iload dX3_learn_37 rfl ?_
        refine z_aload_n dX3_learn_39 rfl rfl ?_
        refine zgI fl_X3_21 h0 (fun _ => rfl) dX3_learn_40 ?_
        refine z_icmp_ge (tgt := 56) dX3_learn_43 (by decide) (fun q_6 => ?_) (fun q_6 => ?_)
        · have hf := (if_pos q_6).symm.trans hf
          refine z_iconst (v := 0) dX3_learn_56 (by decide) ?_
          obtain ⟨rfl, rfl⟩ := z_end hf
          exact z_iret ⟨rfl, rfl, rfl⟩ (Or.inr ⟨rfl, (Or.inl rfl)⟩) dX3_learn_57
        · have hf := (if_neg q_6).symm.trans hf
          refine z_iload_n dX3_learn_46 rfl rfl ?_
          refine z_iload dX3_learn_47 rfl ?_
          refine z_ishr dX3_learn_49 ?_
          refine z_iconst (v := 1) dX3_learn_50 (by decide) ?_
          refine z_iand dX3_learn_51 ?_
          refine z_iconst (v := 1) dX3_learn_52 (by decide) ?_
          refine z_icmp_ne (tgt := 58) dX3_learn_53 (by decide) (fun q_7 => ?_) (fun q_7 => ?_)
          · have hf := (if_neg q_7).symm.trans hf
            refine z_iload_n dX3_learn_58 rfl rfl ?_
            refine z_iconst (v := 1) dX3_learn_59 (by decide) ?_
            refine z_iload dX3_learn_60 rfl ?_
            refine z_ishl dX3_learn_62 ?_
            refine z_ior dX3_learn_63 ?_
            obtain ⟨x3_8, ex3_8, hf⟩ := zl_some hf
            refine z_istore_n' (lv' := [(3, .int x3_8), (5, .int v_2), (0, .ref x0), (1, .ref x1), (4, .int x4)]) rfl dX3_learn_64 (by decide) ex3_8 rfl ?_
            refine z_aload_n dX3_learn_65 rfl rfl ?_
            obtain ⟨a_9, ra_9, hf⟩ := z_rd_some hf
            refine zgR fl_X3_9 h0 (fun _ => rfl) ra_9 dX3_learn_66 (fun ha_9 => ?_)
            refine z_iload dX3_learn_69 rfl ?_
            refine z_iload dX3_learn_71 rfl ?_
            obtain ⟨g_10, hf⟩ := z_ifs hf
            obtain ⟨M_11, eM_11, hf⟩ := zl_some hf
            refine z_iast ha_9 g_10 eM_11 dX3_learn_73 ?_
            obtain ⟨x4_12, ex4_12, hf⟩ := zl_some hf
            refine z_iinc' (lv' := [(4, .int x4_12), (3, .int x3_8), (5, .int v_2), (0, .ref x0), (1, .ref x1)]) dX3_learn_74 rfl (by decide) ex4_12 (by decide) rfl ?_
            refine z_goto (tgt := 15) dX3_learn_77 (by decide) ?_
            refine zA.pick [(0, .ref x0), (1, .ref x1), (3, .int x3_8), (4, .int x4_12)] [3, 4, 1, 0] rfl ?_
            exact ih x3_8 x4_12 M_11 hf
          · have hf := (if_pos q_7).symm.trans hf
            refine z_iconst (v := 0) dX3_learn_56 (by decide) ?_
            obtain ⟨rfl, rfl⟩ := z_end hf
            exact z_iret ⟨rfl, rfl, rfl⟩ (Or.inr ⟨rfl, (Or.inl rfl)⟩) dX3_learn_57
noncomputable def f_X3_learn (x0 : Nat) (x1 : Nat) (x2 : Int32) (M : zM) : Option (Int32 × zM) :=
  zl (zu M.1 x0 1 (z_min x2 24), M.2) fun M_1 => (f_X3_learn_15 x0 x1 zF 0 0 M_1)
set_option maxHeartbeats 2000000 in
set_option maxRecDepth 20000 in
theorem t_X3_learn {l : Launch} {x0 : Nat} {x1 : Nat} {x2 : Int32} {M MO : zM} {v : Int32} (h0 : z_tm SH 3 x0) (h1 : z_tm SH 9 x1) (hf : f_X3_learn x0 x1 x2 M = some (v, MO)) : zMet l yX3_learn cX3_learn 6 (some .boolean) 2 0 0 [.ref x0, .ref x1, .int x2] SH M (zDi SH v MO) := by
  refine zMet.of (by decide +kernel) (Nat.le_of_ble_eq_true rfl) (Or.inr (Or.inr (Or.inl rfl))) ?_
  show zA l yX3_learn cX3_learn 6 (some .boolean) 2 0 0 SH.length (zDi SH v MO) 0 0 0 [(0, .ref x0), (1, .ref x1), (2, .int x2)] [] SH M
  unfold f_X3_learn at hf
  refine z_aload_n dX3_learn_0 rfl rfl ?_
  refine z_iload_n dX3_learn_1 rfl rfl ?_
  refine z_bipush (v := 24) dX3_learn_2 (by decide) ?_
  refine z_mmin mm_X3_15 mm_smin mm_ini mm_cmin (by decide) (Nat.le_of_ble_eq_true rfl) dX3_learn_4 ?_
  obtain ⟨M_1, eM_1, hf⟩ := zl_some hf
  refine zpI fl_X3_21 h0 rfl (Or.inl rfl) eM_1 dX3_learn_7 ?_
  refine z_iconst (v := 0) dX3_learn_10 (by decide) ?_
  refine z_istore_n' (lv' := [(3, .int 0), (0, .ref x0), (1, .ref x1), (2, .int x2)]) rfl dX3_learn_11 (by decide) rfl rfl ?_
  refine z_iconst (v := 0) dX3_learn_12 (by decide) ?_
  refine z_istore' (lv' := [(4, .int 0), (3, .int 0), (0, .ref x0), (1, .ref x1), (2, .int x2)]) dX3_learn_13 (by decide) rfl rfl ?_
  refine zA.pick [(0, .ref x0), (1, .ref x1), (3, .int 0), (4, .int 0)] [2, 3, 1, 0] rfl ?_
  exact t_X3_learn_15 h0 h1 zF 0 0 M_1 hf
noncomputable def f_X3_roundOf_12 (x0 : Nat) (x1 : Int32) : Nat → Int32 → Int32 → Int32 → zM → Option (Int32 × zM)
  | 0, _, _, _, _ => none
  | n + 1, x2, x3, x4, M =>
    (if (M.1 x0 1) ≤ x4 then some (x3, M) else (if x2 = x1 then some (x3, M) else z_rd (M.2.1 x0 0) fun a_3 => if z_ix x2 (z_ln SH a_3) = true then zl ((M.1 a_3 (x2 : Int32).toNatClampNeg)) fun x2_5 => zl (x3 + 1) fun x3_6 => zl (x4 + 1) fun x4_7 => (f_X3_roundOf_12 x0 x1 n x2_5 x3_6 x4_7 M) else none))
set_option maxHeartbeats 2000000 in
set_option maxRecDepth 20000 in
theorem t_X3_roundOf_12 {l : Launch} {x0 : Nat} {x1 : Int32} {MO : zM} {v : Int32} (h0 : z_tm SH 3 x0) : ∀ (n : Nat) (x2 : Int32) (x3 : Int32) (x4 : Int32) (M : zM), f_X3_roundOf_12 x0 x1 n x2 x3 x4 M = some (v, MO) → zA l yX3_roundOf cX3_roundOf 5 (some .int) 1 0 0 SH.length (zDi SH v MO) 0 0 12 [(0, .ref x0), (1, .int x1), (2, .int x2), (3, .int x3), (4, .int x4)] [] SH M := by
  intro n
  induction n with
  | zero =>
    intro x2 x3 x4 M hf
    rw [f_X3_roundOf_12] at hf
    cases hf
  | succ n ih =>
    intro x2 x3 x4 M hf
    rw [f_X3_roundOf_12] at hf
    refine z_iload dX3_roundOf_12 rfl ?_
    refine z_aload_n dX3_roundOf_14 rfl rfl ?_
    refine zgI fl_X3_21 h0 (fun _ => rfl) dX3_roundOf_15 ?_
    refine z_icmp_ge (tgt := 42) dX3_roundOf_18 (by decide) (fun q_1 => ?_) (fun q_1 => ?_)
    · have hf := (if_pos q_1).symm.trans hf
      refine z_iload_n dX3_roundOf_42 rfl rfl ?_
      obtain ⟨rfl, rfl⟩ := z_end hf
      exact z_iret ⟨rfl, rfl, rfl⟩ (Or.inl rfl) dX3_roundOf_43
    · have hf := (if_neg q_1).symm.trans hf
      refine z_iload_n dX3_roundOf_21 rfl rfl ?_
      refine z_iload_n dX3_roundOf_22 rfl rfl ?_
      refine z_icmp_eq (tgt := 42) dX3_roundOf_23 (by decide) (fun q_2 => ?_) (fun q_2 => ?_)
      · have hf := (if_pos q_2).symm.trans hf
        refine z_iload_n dX3_roundOf_42 rfl rfl ?_
        obtain ⟨rfl, rfl⟩ := z_end hf
        exact z_iret ⟨rfl, rfl, rfl⟩ (Or.inl rfl) dX3_roundOf_43
      · have hf := (if_neg q_2).symm.trans hf
        refine z_aload_n dX3_roundOf_26 rfl rfl ?_
        obtain ⟨a_3, ra_3, hf⟩ := z_rd_some hf
        refine zgR fl_X3_9 h0 (fun _ => rfl) ra_3 dX3_roundOf_27 (fun ha_3 => ?_)
        refine z_iload_n dX3_roundOf_30 rfl rfl ?_
        obtain ⟨g_4, hf⟩ := z_ifs hf
        refine z_iald ha_3 g_4 rfl dX3_roundOf_31 ?_
        obtain ⟨x2_5, ex2_5, hf⟩ := zl_some hf
        refine z_istore_n' (lv' := [(2, .int x2_5), (0, .ref x0), (1, .int x1), (3, .int x3), (4, .int x4)]) rfl dX3_roundOf_32 (by decide) ex2_5 rfl ?_
        obtain ⟨x3_6, ex3_6, hf⟩ := zl_some hf
        refine z_iinc' (lv' := [(3, .int x3_6), (2, .int x2_5), (0, .ref x0), (1, .int x1), (4, .int x4)]) dX3_roundOf_33 rfl (by decide) ex3_6 (by decide) rfl ?_
        obtain ⟨x4_7, ex4_7, hf⟩ := zl_some hf
        refine z_iinc' (lv' := [(4, .int x4_7), (3, .int x3_6), (2, .int x2_5), (0, .ref x0), (1, .int x1)]) dX3_roundOf_36 rfl (by decide) ex4_7 (by decide) rfl ?_
        refine z_goto (tgt := 12) dX3_roundOf_39 (by decide) ?_
        refine zA.pick [(0, .ref x0), (1, .int x1), (2, .int x2_5), (3, .int x3_6), (4, .int x4_7)] [3, 4, 2, 1, 0] rfl ?_
        exact ih x2_5 x3_6 x4_7 M hf
noncomputable def f_X3_roundOf (x0 : Nat) (x1 : Int32) (M : zM) : Option (Int32 × zM) :=
  z_rd (M.2.1 x0 0) fun a_1 => if z_ix x1 (z_ln SH a_1) = true then zl ((M.1 a_1 (x1 : Int32).toNatClampNeg)) fun x2_3 => (f_X3_roundOf_12 x0 x1 zF x2_3 1 1 M) else none
set_option maxHeartbeats 2000000 in
set_option maxRecDepth 20000 in
theorem t_X3_roundOf {l : Launch} {x0 : Nat} {x1 : Int32} {M MO : zM} {v : Int32} (h0 : z_tm SH 3 x0) (hf : f_X3_roundOf x0 x1 M = some (v, MO)) : zMet l yX3_roundOf cX3_roundOf 5 (some .int) 1 0 0 [.ref x0, .int x1] SH M (zDi SH v MO) := by
  refine zMet.of (by decide +kernel) (Nat.le_of_ble_eq_true rfl) (Or.inr (Or.inl rfl)) ?_
  show zA l yX3_roundOf cX3_roundOf 5 (some .int) 1 0 0 SH.length (zDi SH v MO) 0 0 0 [(0, .ref x0), (1, .int x1)] [] SH M
  unfold f_X3_roundOf at hf
  refine z_aload_n dX3_roundOf_0 rfl rfl ?_
  obtain ⟨a_1, ra_1, hf⟩ := z_rd_some hf
  refine zgR fl_X3_9 h0 (fun _ => rfl) ra_1 dX3_roundOf_1 (fun ha_1 => ?_)
  refine z_iload_n dX3_roundOf_4 rfl rfl ?_
  obtain ⟨g_2, hf⟩ := z_ifs hf
  refine z_iald ha_1 g_2 rfl dX3_roundOf_5 ?_
  obtain ⟨x2_3, ex2_3, hf⟩ := zl_some hf
  refine z_istore_n' (lv' := [(2, .int x2_3), (0, .ref x0), (1, .int x1)]) rfl dX3_roundOf_6 (by decide) ex2_3 rfl ?_
  refine z_iconst (v := 1) dX3_roundOf_7 (by decide) ?_
  refine z_istore_n' (lv' := [(3, .int 1), (2, .int x2_3), (0, .ref x0), (1, .int x1)]) rfl dX3_roundOf_8 (by decide) rfl rfl ?_
  refine z_iconst (v := 1) dX3_roundOf_9 (by decide) ?_
  refine z_istore' (lv' := [(4, .int 1), (3, .int 1), (2, .int x2_3), (0, .ref x0), (1, .int x1)]) dX3_roundOf_10 (by decide) rfl rfl ?_
  refine zA.pick [(0, .ref x0), (1, .int x1), (2, .int x2_3), (3, .int 1), (4, .int 1)] [3, 4, 2, 1, 0] rfl ?_
  exact t_X3_roundOf_12 h0 zF x2_3 1 1 M hf
noncomputable def f_X11_commonDivisor_7 : Nat → Int32 → Int32 → Int32 → zM → Option (Int32 × zM)
  | 0, _, _, _, _ => none
  | n + 1, x2, x3, x4, M =>
    (if 64 ≤ x4 then some (x2, M) else (if x3 = 0 then some (x2, M) else if ¬ ((x3 : Int32) = 0) then zl ((x2 - x2 / x3 * x3)) fun x5_4 => zl (x4 + 1) fun x4_5 => (f_X11_commonDivisor_7 n x3 x5_4 x4_5 M) else none))
set_option maxHeartbeats 2000000 in
set_option maxRecDepth 20000 in
theorem t_X11_commonDivisor_7 {l : Launch} {MO : zM} {v : Int32} : ∀ (n : Nat) (x2 : Int32) (x3 : Int32) (x4 : Int32) (M : zM), f_X11_commonDivisor_7  n x2 x3 x4 M = some (v, MO) → zA l yX11_commonDivisor cX11_commonDivisor 6 (some .int) 1 0 0 SH.length (zDi SH v MO) 0 0 7 [(2, .int x2), (3, .int x3), (4, .int x4)] [] SH M := by
  intro n
  induction n with
  | zero =>
    intro x2 x3 x4 M hf
    rw [f_X11_commonDivisor_7] at hf
    cases hf
  | succ n ih =>
    intro x2 x3 x4 M hf
    rw [f_X11_commonDivisor_7] at hf
    refine z_iload dX11_commonDivisor_7 rfl ?_
    refine z_bipush (v := 64) dX11_commonDivisor_9 (by decide) ?_
    refine z_icmp_ge (tgt := 34) dX11_commonDivisor_11 (by decide) (fun q_1 => ?_) (fun q_1 => ?_)
    · have hf := (if_pos q_1).symm.trans hf
      refine z_iload_n dX11_commonDivisor_34 rfl rfl ?_
      obtain ⟨rfl, rfl⟩ := z_end hf
      exact z_iret ⟨rfl, rfl, rfl⟩ (Or.inl rfl) dX11_commonDivisor_35
    · have hf := (if_neg q_1).symm.trans hf
      refine z_iload_n dX11_commonDivisor_14 rfl rfl ?_
      refine z_if_eq (tgt := 34) dX11_commonDivisor_15 (by decide) (fun q_2 => ?_) (fun q_2 => ?_)
      · have hf := (if_pos q_2).symm.trans hf
        refine z_iload_n dX11_commonDivisor_34 rfl rfl ?_
        obtain ⟨rfl, rfl⟩ := z_end hf
        exact z_iret ⟨rfl, rfl, rfl⟩ (Or.inl rfl) dX11_commonDivisor_35
      · have hf := (if_neg q_2).symm.trans hf
        refine z_iload_n dX11_commonDivisor_18 rfl rfl ?_
        refine z_iload_n dX11_commonDivisor_19 rfl rfl ?_
        obtain ⟨g_3, hf⟩ := z_ifs hf
        refine z_irem dX11_commonDivisor_20 g_3 ?_
        obtain ⟨x5_4, ex5_4, hf⟩ := zl_some hf
        refine z_istore' (lv' := [(5, .int x5_4), (2, .int x2), (3, .int x3), (4, .int x4)]) dX11_commonDivisor_21 (by decide) ex5_4 rfl ?_
        refine z_iload_n dX11_commonDivisor_23 rfl rfl ?_
        refine z_istore_n' (lv' := [(2, .int x3), (5, .int x5_4), (3, .int x3), (4, .int x4)]) rfl dX11_commonDivisor_24 (by decide) rfl rfl ?_
        refine z_iload dX11_commonDivisor_25 rfl ?_
        refine z_istore_n' (lv' := [(3, .int x5_4), (2, .int x3), (5, .int x5_4), (4, .int x4)]) rfl dX11_commonDivisor_27 (by decide) rfl rfl ?_
        obtain ⟨x4_5, ex4_5, hf⟩ := zl_some hf
        refine z_iinc' (lv' := [(4, .int x4_5), (3, .int x5_4), (2, .int x3), (5, .int x5_4)]) dX11_commonDivisor_28 rfl (by decide) ex4_5 (by decide) rfl ?_
        refine z_goto (tgt := 7) dX11_commonDivisor_31 (by decide) ?_
        refine zA.pick [(2, .int x3), (3, .int x5_4), (4, .int x4_5)] [2, 1, 0] rfl ?_
        exact ih x3 x5_4 x4_5 M hf
noncomputable def f_X11_commonDivisor (x0 : Int32) (x1 : Int32) (M : zM) : Option (Int32 × zM) :=
  (f_X11_commonDivisor_7 zF x0 x1 0 M)
set_option maxHeartbeats 2000000 in
set_option maxRecDepth 20000 in
theorem t_X11_commonDivisor {l : Launch} {x0 : Int32} {x1 : Int32} {M MO : zM} {v : Int32} (hf : f_X11_commonDivisor x0 x1 M = some (v, MO)) : zMet l yX11_commonDivisor cX11_commonDivisor 6 (some .int) 1 0 0 [.int x0, .int x1] SH M (zDi SH v MO) := by
  refine zMet.of (by decide +kernel) (Nat.le_of_ble_eq_true rfl) (Or.inr (Or.inl rfl)) ?_
  show zA l yX11_commonDivisor cX11_commonDivisor 6 (some .int) 1 0 0 SH.length (zDi SH v MO) 0 0 0 [(0, .int x0), (1, .int x1)] [] SH M
  unfold f_X11_commonDivisor at hf
  refine z_iload_n dX11_commonDivisor_0 rfl rfl ?_
  refine z_istore_n' (lv' := [(2, .int x0), (0, .int x0), (1, .int x1)]) rfl dX11_commonDivisor_1 (by decide) rfl rfl ?_
  refine z_iload_n dX11_commonDivisor_2 rfl rfl ?_
  refine z_istore_n' (lv' := [(3, .int x1), (2, .int x0), (0, .int x0), (1, .int x1)]) rfl dX11_commonDivisor_3 (by decide) rfl rfl ?_
  refine z_iconst (v := 0) dX11_commonDivisor_4 (by decide) ?_
  refine z_istore' (lv' := [(4, .int 0), (3, .int x1), (2, .int x0), (0, .int x0), (1, .int x1)]) dX11_commonDivisor_5 (by decide) rfl rfl ?_
  refine zA.pick [(2, .int x0), (3, .int x1), (4, .int 0)] [2, 1, 0] rfl ?_
  exact t_X11_commonDivisor_7 zF x0 x1 0 M hf
noncomputable def f_X3_weeksTillHome_37 (x0 : Nat) (k4 : Int32 → Int32 → zM → Option (Int32 × zM)) (x1 : Int32) (x2 : Int32) (M : zM) : Option (Int32 × zM) :=
  zl (x2 + 1) fun x2_1 => (k4 x1 x2_1 M)
set_option maxHeartbeats 2000000 in
set_option maxRecDepth 20000 in
theorem t_X3_weeksTillHome_37 {l : Launch} {x0 : Nat} {k4 : Int32 → Int32 → zM → Option (Int32 × zM)} {x1 : Int32} {x2 : Int32} {M MO : zM} {v : Int32} (h0 : z_tm SH 3 x0) (hk4 : ∀ (x1 : Int32) (x2 : Int32) (M : zM), k4 x1 x2 M = some (v, MO) → zA l yX3_weeksTillHome cX3_weeksTillHome 5 (some .int) 2 0 0 SH.length (zDi SH v MO) 0 0 4 [(0, .ref x0), (1, .int x1), (2, .int x2)] [] SH M) (hf : f_X3_weeksTillHome_37 x0 k4 x1 x2 M = some (v, MO)) : zA l yX3_weeksTillHome cX3_weeksTillHome 5 (some .int) 2 0 0 SH.length (zDi SH v MO) 0 0 37 [(0, .ref x0), (1, .int x1), (2, .int x2)] [] SH M := by
  unfold f_X3_weeksTillHome_37 at hf
  obtain ⟨x2_1, ex2_1, hf⟩ := zl_some hf
  refine z_iinc' (lv' := [(2, .int x2_1), (0, .ref x0), (1, .int x1)]) dX3_weeksTillHome_37 rfl (by decide) ex2_1 (by decide) rfl ?_
  refine z_goto (tgt := 4) dX3_weeksTillHome_40 (by decide) ?_
  refine zA.pick [(0, .ref x0), (1, .int x1), (2, .int x2_1)] [1, 2, 0] rfl ?_
  exact hk4 x1 x2_1 M hf
noncomputable def f_X3_weeksTillHome_4 (x0 : Nat) : Nat → Int32 → Int32 → zM → Option (Int32 × zM)
  | 0, _, _, _ => none
  | n + 1, x1, x2, M =>
    (if (M.1 x0 1) ≤ x2 then some (x1, M) else z_call (f_X3_roundOf x0 x2 M) fun v_2 M_3 => z_call (f_X11_commonDivisor x1 v_2 M_3) fun v_5 M_6 => (if v_5 ≤ 0 then (f_X3_weeksTillHome_37 x0 (f_X3_weeksTillHome_4 x0 n) x1 x2 M_6) else if ¬ ((v_5 : Int32) = 0) then zl (((x1 / v_5) * v_2)) fun x1_10 => (f_X3_weeksTillHome_37 x0 (f_X3_weeksTillHome_4 x0 n) x1_10 x2 M_6) else none))
set_option maxHeartbeats 2000000 in
set_option maxRecDepth 20000 in
theorem t_X3_weeksTillHome_4 {l : Launch} {x0 : Nat} {MO : zM} {v : Int32} (h0 : z_tm SH 3 x0) : ∀ (n : Nat) (x1 : Int32) (x2 : Int32) (M : zM), f_X3_weeksTillHome_4 x0 n x1 x2 M = some (v, MO) → zA l yX3_weeksTillHome cX3_weeksTillHome 5 (some .int) 2 0 0 SH.length (zDi SH v MO) 0 0 4 [(0, .ref x0), (1, .int x1), (2, .int x2)] [] SH M := by
  intro n
  induction n with
  | zero =>
    intro x1 x2 M hf
    rw [f_X3_weeksTillHome_4] at hf
    cases hf
  | succ n ih =>
    intro x1 x2 M hf
    rw [f_X3_weeksTillHome_4] at hf
    refine z_iload_n dX3_weeksTillHome_4 rfl rfl ?_
    refine z_aload_n dX3_weeksTillHome_5 rfl rfl ?_
    refine zgI fl_X3_21 h0 (fun _ => rfl) dX3_weeksTillHome_6 ?_
    refine z_icmp_ge (tgt := 43) dX3_weeksTillHome_9 (by decide) (fun q_1 => ?_) (fun q_1 => ?_)
    · have hf := (if_pos q_1).symm.trans hf
      refine z_iload_n dX3_weeksTillHome_43 rfl rfl ?_
      obtain ⟨rfl, rfl⟩ := z_end hf
      exact z_iret ⟨rfl, rfl, rfl⟩ (Or.inl rfl) dX3_weeksTillHome_44
    · have hf := (if_neg q_1).symm.trans hf
      refine z_aload_n dX3_weeksTillHome_12 rfl rfl ?_
      refine z_iload_n dX3_weeksTillHome_13 rfl rfl ?_
      obtain ⟨v_2, M_3, c_4, hf⟩ := z_call_some hf
      refine z_cVi (t_X3_roundOf h0 c_4) kw_X3_roundOf lk_X3_31 h0 rfl (by decide) rfl (Nat.le_of_ble_eq_true rfl) ⟨Nat.le_refl 0, Nat.le_refl 0⟩ dX3_weeksTillHome_14 ?_
      refine z_istore_n' (lv' := [(3, .int v_2), (0, .ref x0), (1, .int x1), (2, .int x2)]) rfl dX3_weeksTillHome_17 (by decide) rfl rfl ?_
      refine z_iload_n dX3_weeksTillHome_18 rfl rfl ?_
      refine z_iload_n dX3_weeksTillHome_19 rfl rfl ?_
      obtain ⟨v_5, M_6, c_7, hf⟩ := z_call_some hf
      refine z_cSi (t_X11_commonDivisor  c_7) kw_X11_commonDivisor lk_X3_34 rfl (by decide) rfl (Nat.le_of_ble_eq_true rfl) ⟨Nat.le_refl 0, Nat.le_refl 0⟩ dX3_weeksTillHome_20 ?_
      refine z_istore' (lv' := [(4, .int v_5), (3, .int v_2), (0, .ref x0), (1, .int x1), (2, .int x2)]) dX3_weeksTillHome_23 (by decide) rfl rfl ?_
      refine z_iload dX3_weeksTillHome_25 rfl ?_
      refine z_if_le (tgt := 37) dX3_weeksTillHome_27 (by decide) (fun q_8 => ?_) (fun q_8 => ?_)
      · have hf := (if_pos q_8).symm.trans hf
        refine zA.pick [(0, .ref x0), (1, .int x1), (2, .int x2)] [2, 3, 4] rfl ?_
        exact t_X3_weeksTillHome_37 h0 ih hf
      · have hf := (if_neg q_8).symm.trans hf
        refine z_iload_n dX3_weeksTillHome_30 rfl rfl ?_
        refine z_iload dX3_weeksTillHome_31 rfl ?_
        obtain ⟨g_9, hf⟩ := z_ifs hf
        refine z_idiv dX3_weeksTillHome_33 g_9 ?_
        refine z_iload_n dX3_weeksTillHome_34 rfl rfl ?_
        refine z_imul dX3_weeksTillHome_35 ?_
        obtain ⟨x1_10, ex1_10, hf⟩ := zl_some hf
        refine z_istore_n' (lv' := [(1, .int x1_10), (4, .int v_5), (3, .int v_2), (0, .ref x0), (2, .int x2)]) rfl dX3_weeksTillHome_36 (by decide) ex1_10 rfl ?_
        refine zA.pick [(0, .ref x0), (1, .int x1_10), (2, .int x2)] [3, 0, 4] rfl ?_
        exact t_X3_weeksTillHome_37 h0 ih hf
noncomputable def f_X3_weeksTillHome (x0 : Nat) (M : zM) : Option (Int32 × zM) :=
  (f_X3_weeksTillHome_4 x0 zF 1 0 M)
set_option maxHeartbeats 2000000 in
set_option maxRecDepth 20000 in
theorem t_X3_weeksTillHome {l : Launch} {x0 : Nat} {M MO : zM} {v : Int32} (h0 : z_tm SH 3 x0) (hf : f_X3_weeksTillHome x0 M = some (v, MO)) : zMet l yX3_weeksTillHome cX3_weeksTillHome 5 (some .int) 2 0 0 [.ref x0] SH M (zDi SH v MO) := by
  refine zMet.of (by decide +kernel) (Nat.le_of_ble_eq_true rfl) (Or.inr (Or.inl rfl)) ?_
  show zA l yX3_weeksTillHome cX3_weeksTillHome 5 (some .int) 2 0 0 SH.length (zDi SH v MO) 0 0 0 [(0, .ref x0)] [] SH M
  unfold f_X3_weeksTillHome at hf
  refine z_iconst (v := 1) dX3_weeksTillHome_0 (by decide) ?_
  refine z_istore_n' (lv' := [(1, .int 1), (0, .ref x0)]) rfl dX3_weeksTillHome_1 (by decide) rfl rfl ?_
  refine z_iconst (v := 0) dX3_weeksTillHome_2 (by decide) ?_
  refine z_istore_n' (lv' := [(2, .int 0), (1, .int 1), (0, .ref x0)]) rfl dX3_weeksTillHome_3 (by decide) rfl rfl ?_
  refine zA.pick [(0, .ref x0), (1, .int 1), (2, .int 0)] [2, 1, 0] rfl ?_
  exact t_X3_weeksTillHome_4 h0 zF 1 0 M hf
noncomputable def f_X3_isLowestOfRound_9 (x0 : Nat) (x1 : Int32) : Nat → Int32 → Int32 → zM → Option (Int32 × zM)
  | 0, _, _, _ => none
  | n + 1, x2, x3, M =>
    (if (M.1 x0 1) ≤ x3 then some (1, M) else (if x2 = x1 then some (1, M) else (if x1 ≤ x2 then z_rd (M.2.1 x0 0) fun a_4 => if z_ix x2 (z_ln SH a_4) = true then zl ((M.1 a_4 (x2 : Int32).toNatClampNeg)) fun x2_6 => zl (x3 + 1) fun x3_7 => (f_X3_isLowestOfRound_9 x0 x1 n x2_6 x3_7 M) else none else some (0, M))))
set_option maxHeartbeats 2000000 in
set_option maxRecDepth 20000 in
theorem t_X3_isLowestOfRound_9 {l : Launch} {x0 : Nat} {x1 : Int32} {MO : zM} {v : Int32} (h0 : z_tm SH 3 x0) : ∀ (n : Nat) (x2 : Int32) (x3 : Int32) (M : zM), f_X3_isLowestOfRound_9 x0 x1 n x2 x3 M = some (v, MO) → zA l yX3_isLowestOfRound cX3_isLowestOfRound 4 (some .boolean) 1 0 0 SH.length (zDi SH v MO) 0 0 9 [(0, .ref x0), (1, .int x1), (2, .int x2), (3, .int x3)] [] SH M := by
  intro n
  induction n with
  | zero =>
    intro x2 x3 M hf
    rw [f_X3_isLowestOfRound_9] at hf
    cases hf
  | succ n ih =>
    intro x2 x3 M hf
    rw [f_X3_isLowestOfRound_9] at hf
    refine z_iload_n dX3_isLowestOfRound_9 rfl rfl ?_
    refine z_aload_n dX3_isLowestOfRound_10 rfl rfl ?_
    refine zgI fl_X3_21 h0 (fun _ => rfl) dX3_isLowestOfRound_11 ?_
    refine z_icmp_ge (tgt := 42) dX3_isLowestOfRound_14 (by decide) (fun q_1 => ?_) (fun q_1 => ?_)
    · have hf := (if_pos q_1).symm.trans hf
      refine z_iconst (v := 1) dX3_isLowestOfRound_42 (by decide) ?_
      obtain ⟨rfl, rfl⟩ := z_end hf
      exact z_iret ⟨rfl, rfl, rfl⟩ (Or.inr ⟨rfl, (Or.inr rfl)⟩) dX3_isLowestOfRound_43
    · have hf := (if_neg q_1).symm.trans hf
      refine z_iload_n dX3_isLowestOfRound_17 rfl rfl ?_
      refine z_iload_n dX3_isLowestOfRound_18 rfl rfl ?_
      refine z_icmp_eq (tgt := 42) dX3_isLowestOfRound_19 (by decide) (fun q_2 => ?_) (fun q_2 => ?_)
      · have hf := (if_pos q_2).symm.trans hf
        refine z_iconst (v := 1) dX3_isLowestOfRound_42 (by decide) ?_
        obtain ⟨rfl, rfl⟩ := z_end hf
        exact z_iret ⟨rfl, rfl, rfl⟩ (Or.inr ⟨rfl, (Or.inr rfl)⟩) dX3_isLowestOfRound_43
      · have hf := (if_neg q_2).symm.trans hf
        refine z_iload_n dX3_isLowestOfRound_22 rfl rfl ?_
        refine z_iload_n dX3_isLowestOfRound_23 rfl rfl ?_
        refine z_icmp_ge (tgt := 29) dX3_isLowestOfRound_24 (by decide) (fun q_3 => ?_) (fun q_3 => ?_)
        · have hf := (if_pos q_3).symm.trans hf
          refine z_aload_n dX3_isLowestOfRound_29 rfl rfl ?_
          obtain ⟨a_4, ra_4, hf⟩ := z_rd_some hf
          refine zgR fl_X3_9 h0 (fun _ => rfl) ra_4 dX3_isLowestOfRound_30 (fun ha_4 => ?_)
          refine z_iload_n dX3_isLowestOfRound_33 rfl rfl ?_
          obtain ⟨g_5, hf⟩ := z_ifs hf
          refine z_iald ha_4 g_5 rfl dX3_isLowestOfRound_34 ?_
          obtain ⟨x2_6, ex2_6, hf⟩ := zl_some hf
          refine z_istore_n' (lv' := [(2, .int x2_6), (0, .ref x0), (1, .int x1), (3, .int x3)]) rfl dX3_isLowestOfRound_35 (by decide) ex2_6 rfl ?_
          obtain ⟨x3_7, ex3_7, hf⟩ := zl_some hf
          refine z_iinc' (lv' := [(3, .int x3_7), (2, .int x2_6), (0, .ref x0), (1, .int x1)]) dX3_isLowestOfRound_36 rfl (by decide) ex3_7 (by decide) rfl ?_
          refine z_goto (tgt := 9) dX3_isLowestOfRound_39 (by decide) ?_
          refine zA.pick [(0, .ref x0), (1, .int x1), (2, .int x2_6), (3, .int x3_7)] [2, 3, 1, 0] rfl ?_
          exact ih x2_6 x3_7 M hf
        · have hf := (if_neg q_3).symm.trans hf
          refine z_iconst (v := 0) dX3_isLowestOfRound_27 (by decide) ?_
          obtain ⟨rfl, rfl⟩ := z_end hf
          exact z_iret ⟨rfl, rfl, rfl⟩ (Or.inr ⟨rfl, (Or.inl rfl)⟩) dX3_isLowestOfRound_28
noncomputable def f_X3_isLowestOfRound (x0 : Nat) (x1 : Int32) (M : zM) : Option (Int32 × zM) :=
  z_rd (M.2.1 x0 0) fun a_1 => if z_ix x1 (z_ln SH a_1) = true then zl ((M.1 a_1 (x1 : Int32).toNatClampNeg)) fun x2_3 => (f_X3_isLowestOfRound_9 x0 x1 zF x2_3 1 M) else none
set_option maxHeartbeats 2000000 in
set_option maxRecDepth 20000 in
theorem t_X3_isLowestOfRound {l : Launch} {x0 : Nat} {x1 : Int32} {M MO : zM} {v : Int32} (h0 : z_tm SH 3 x0) (hf : f_X3_isLowestOfRound x0 x1 M = some (v, MO)) : zMet l yX3_isLowestOfRound cX3_isLowestOfRound 4 (some .boolean) 1 0 0 [.ref x0, .int x1] SH M (zDi SH v MO) := by
  refine zMet.of (by decide +kernel) (Nat.le_of_ble_eq_true rfl) (Or.inr (Or.inr (Or.inl rfl))) ?_
  show zA l yX3_isLowestOfRound cX3_isLowestOfRound 4 (some .boolean) 1 0 0 SH.length (zDi SH v MO) 0 0 0 [(0, .ref x0), (1, .int x1)] [] SH M
  unfold f_X3_isLowestOfRound at hf
  refine z_aload_n dX3_isLowestOfRound_0 rfl rfl ?_
  obtain ⟨a_1, ra_1, hf⟩ := z_rd_some hf
  refine zgR fl_X3_9 h0 (fun _ => rfl) ra_1 dX3_isLowestOfRound_1 (fun ha_1 => ?_)
  refine z_iload_n dX3_isLowestOfRound_4 rfl rfl ?_
  obtain ⟨g_2, hf⟩ := z_ifs hf
  refine z_iald ha_1 g_2 rfl dX3_isLowestOfRound_5 ?_
  obtain ⟨x2_3, ex2_3, hf⟩ := zl_some hf
  refine z_istore_n' (lv' := [(2, .int x2_3), (0, .ref x0), (1, .int x1)]) rfl dX3_isLowestOfRound_6 (by decide) ex2_3 rfl ?_
  refine z_iconst (v := 1) dX3_isLowestOfRound_7 (by decide) ?_
  refine z_istore_n' (lv' := [(3, .int 1), (2, .int x2_3), (0, .ref x0), (1, .int x1)]) rfl dX3_isLowestOfRound_8 (by decide) rfl rfl ?_
  refine zA.pick [(0, .ref x0), (1, .int x1), (2, .int x2_3), (3, .int 1)] [2, 3, 1, 0] rfl ?_
  exact t_X3_isLowestOfRound_9 h0 zF x2_3 1 M hf
noncomputable def f_X3_rounds_23 (x0 : Nat) (k4 : Int32 → Int32 → zM → Option (Int32 × zM)) (x1 : Int32) (x2 : Int32) (M : zM) : Option (Int32 × zM) :=
  zl (x2 + 1) fun x2_1 => (k4 x1 x2_1 M)
set_option maxHeartbeats 2000000 in
set_option maxRecDepth 20000 in
theorem t_X3_rounds_23 {l : Launch} {x0 : Nat} {k4 : Int32 → Int32 → zM → Option (Int32 × zM)} {x1 : Int32} {x2 : Int32} {M MO : zM} {v : Int32} (h0 : z_tm SH 3 x0) (hk4 : ∀ (x1 : Int32) (x2 : Int32) (M : zM), k4 x1 x2 M = some (v, MO) → zA l yX3_rounds cX3_rounds 3 (some .int) 2 0 0 SH.length (zDi SH v MO) 0 0 4 [(0, .ref x0), (1, .int x1), (2, .int x2)] [] SH M) (hf : f_X3_rounds_23 x0 k4 x1 x2 M = some (v, MO)) : zA l yX3_rounds cX3_rounds 3 (some .int) 2 0 0 SH.length (zDi SH v MO) 0 0 23 [(0, .ref x0), (1, .int x1), (2, .int x2)] [] SH M := by
  unfold f_X3_rounds_23 at hf
  obtain ⟨x2_1, ex2_1, hf⟩ := zl_some hf
  refine z_iinc' (lv' := [(2, .int x2_1), (0, .ref x0), (1, .int x1)]) dX3_rounds_23 rfl (by decide) ex2_1 (by decide) rfl ?_
  refine z_goto (tgt := 4) dX3_rounds_26 (by decide) ?_
  refine zA.pick [(0, .ref x0), (1, .int x1), (2, .int x2_1)] [1, 2, 0] rfl ?_
  exact hk4 x1 x2_1 M hf
noncomputable def f_X3_rounds_4 (x0 : Nat) : Nat → Int32 → Int32 → zM → Option (Int32 × zM)
  | 0, _, _, _ => none
  | n + 1, x1, x2, M =>
    (if (M.1 x0 1) ≤ x2 then some (x1, M) else z_call (f_X3_isLowestOfRound x0 x2 M) fun v_2 M_3 => (if v_2 = 0 then (f_X3_rounds_23 x0 (f_X3_rounds_4 x0 n) x1 x2 M_3) else zl (x1 + 1) fun x1_6 => (f_X3_rounds_23 x0 (f_X3_rounds_4 x0 n) x1_6 x2 M_3)))
set_option maxHeartbeats 2000000 in
set_option maxRecDepth 20000 in
theorem t_X3_rounds_4 {l : Launch} {x0 : Nat} {MO : zM} {v : Int32} (h0 : z_tm SH 3 x0) : ∀ (n : Nat) (x1 : Int32) (x2 : Int32) (M : zM), f_X3_rounds_4 x0 n x1 x2 M = some (v, MO) → zA l yX3_rounds cX3_rounds 3 (some .int) 2 0 0 SH.length (zDi SH v MO) 0 0 4 [(0, .ref x0), (1, .int x1), (2, .int x2)] [] SH M := by
  intro n
  induction n with
  | zero =>
    intro x1 x2 M hf
    rw [f_X3_rounds_4] at hf
    cases hf
  | succ n ih =>
    intro x1 x2 M hf
    rw [f_X3_rounds_4] at hf
    refine z_iload_n dX3_rounds_4 rfl rfl ?_
    refine z_aload_n dX3_rounds_5 rfl rfl ?_
    refine zgI fl_X3_21 h0 (fun _ => rfl) dX3_rounds_6 ?_
    refine z_icmp_ge (tgt := 29) dX3_rounds_9 (by decide) (fun q_1 => ?_) (fun q_1 => ?_)
    · have hf := (if_pos q_1).symm.trans hf
      refine z_iload_n dX3_rounds_29 rfl rfl ?_
      obtain ⟨rfl, rfl⟩ := z_end hf
      exact z_iret ⟨rfl, rfl, rfl⟩ (Or.inl rfl) dX3_rounds_30
    · have hf := (if_neg q_1).symm.trans hf
      refine z_aload_n dX3_rounds_12 rfl rfl ?_
      refine z_iload_n dX3_rounds_13 rfl rfl ?_
      obtain ⟨v_2, M_3, c_4, hf⟩ := z_call_some hf
      refine z_cVi (t_X3_isLowestOfRound h0 c_4) kw_X3_isLowestOfRound lk_X3_37 h0 rfl (by decide) rfl (Nat.le_of_ble_eq_true rfl) ⟨Nat.le_refl 0, Nat.le_refl 0⟩ dX3_rounds_14 ?_
      refine z_if_eq (tgt := 23) dX3_rounds_17 (by decide) (fun q_5 => ?_) (fun q_5 => ?_)
      · have hf := (if_pos q_5).symm.trans hf
        exact t_X3_rounds_23 h0 ih hf
      · have hf := (if_neg q_5).symm.trans hf
        obtain ⟨x1_6, ex1_6, hf⟩ := zl_some hf
        refine z_iinc' (lv' := [(1, .int x1_6), (0, .ref x0), (2, .int x2)]) dX3_rounds_20 rfl (by decide) ex1_6 (by decide) rfl ?_
        refine zA.pick [(0, .ref x0), (1, .int x1_6), (2, .int x2)] [1, 0, 2] rfl ?_
        exact t_X3_rounds_23 h0 ih hf
noncomputable def f_X3_rounds (x0 : Nat) (M : zM) : Option (Int32 × zM) :=
  (f_X3_rounds_4 x0 zF 0 0 M)
set_option maxHeartbeats 2000000 in
set_option maxRecDepth 20000 in
theorem t_X3_rounds {l : Launch} {x0 : Nat} {M MO : zM} {v : Int32} (h0 : z_tm SH 3 x0) (hf : f_X3_rounds x0 M = some (v, MO)) : zMet l yX3_rounds cX3_rounds 3 (some .int) 2 0 0 [.ref x0] SH M (zDi SH v MO) := by
  refine zMet.of (by decide +kernel) (Nat.le_of_ble_eq_true rfl) (Or.inr (Or.inl rfl)) ?_
  show zA l yX3_rounds cX3_rounds 3 (some .int) 2 0 0 SH.length (zDi SH v MO) 0 0 0 [(0, .ref x0)] [] SH M
  unfold f_X3_rounds at hf
  refine z_iconst (v := 0) dX3_rounds_0 (by decide) ?_
  refine z_istore_n' (lv' := [(1, .int 0), (0, .ref x0)]) rfl dX3_rounds_1 (by decide) rfl rfl ?_
  refine z_iconst (v := 0) dX3_rounds_2 (by decide) ?_
  refine z_istore_n' (lv' := [(2, .int 0), (1, .int 0), (0, .ref x0)]) rfl dX3_rounds_3 (by decide) rfl rfl ?_
  refine zA.pick [(0, .ref x0), (1, .int 0), (2, .int 0)] [2, 1, 0] rfl ?_
  exact t_X3_rounds_4 h0 zF 0 0 M hf
noncomputable def f_X3_after_5 (x0 : Nat) (x2 : Int32) : Nat → Int32 → Int32 → zM → Option (Int32 × zM)
  | 0, _, _, _ => none
  | n + 1, x3, x4, M =>
    (if x2 ≤ x4 then some (x3, M) else z_rd (M.2.1 x0 0) fun a_2 => if z_ix x3 (z_ln SH a_2) = true then zl ((M.1 a_2 (x3 : Int32).toNatClampNeg)) fun x3_4 => zl (x4 + 1) fun x4_5 => (f_X3_after_5 x0 x2 n x3_4 x4_5 M) else none)
set_option maxHeartbeats 2000000 in
set_option maxRecDepth 20000 in
theorem t_X3_after_5 {l : Launch} {x0 : Nat} {x2 : Int32} {MO : zM} {v : Int32} (h0 : z_tm SH 3 x0) : ∀ (n : Nat) (x3 : Int32) (x4 : Int32) (M : zM), f_X3_after_5 x0 x2 n x3 x4 M = some (v, MO) → zA l yX3_after cX3_after 5 (some .int) 1 0 0 SH.length (zDi SH v MO) 0 0 5 [(0, .ref x0), (2, .int x2), (3, .int x3), (4, .int x4)] [] SH M := by
  intro n
  induction n with
  | zero =>
    intro x3 x4 M hf
    rw [f_X3_after_5] at hf
    cases hf
  | succ n ih =>
    intro x3 x4 M hf
    rw [f_X3_after_5] at hf
    refine z_iload dX3_after_5 rfl ?_
    refine z_iload_n dX3_after_7 rfl rfl ?_
    refine z_icmp_ge (tgt := 24) dX3_after_8 (by decide) (fun q_1 => ?_) (fun q_1 => ?_)
    · have hf := (if_pos q_1).symm.trans hf
      refine z_iload_n dX3_after_24 rfl rfl ?_
      obtain ⟨rfl, rfl⟩ := z_end hf
      exact z_iret ⟨rfl, rfl, rfl⟩ (Or.inl rfl) dX3_after_25
    · have hf := (if_neg q_1).symm.trans hf
      refine z_aload_n dX3_after_11 rfl rfl ?_
      obtain ⟨a_2, ra_2, hf⟩ := z_rd_some hf
      refine zgR fl_X3_9 h0 (fun _ => rfl) ra_2 dX3_after_12 (fun ha_2 => ?_)
      refine z_iload_n dX3_after_15 rfl rfl ?_
      obtain ⟨g_3, hf⟩ := z_ifs hf
      refine z_iald ha_2 g_3 rfl dX3_after_16 ?_
      obtain ⟨x3_4, ex3_4, hf⟩ := zl_some hf
      refine z_istore_n' (lv' := [(3, .int x3_4), (0, .ref x0), (2, .int x2), (4, .int x4)]) rfl dX3_after_17 (by decide) ex3_4 rfl ?_
      obtain ⟨x4_5, ex4_5, hf⟩ := zl_some hf
      refine z_iinc' (lv' := [(4, .int x4_5), (3, .int x3_4), (0, .ref x0), (2, .int x2)]) dX3_after_18 rfl (by decide) ex4_5 (by decide) rfl ?_
      refine z_goto (tgt := 5) dX3_after_21 (by decide) ?_
      refine zA.pick [(0, .ref x0), (2, .int x2), (3, .int x3_4), (4, .int x4_5)] [2, 3, 1, 0] rfl ?_
      exact ih x3_4 x4_5 M hf
noncomputable def f_X3_after (x0 : Nat) (x1 : Int32) (x2 : Int32) (M : zM) : Option (Int32 × zM) :=
  (f_X3_after_5 x0 x2 zF x1 0 M)
set_option maxHeartbeats 2000000 in
set_option maxRecDepth 20000 in
theorem t_X3_after {l : Launch} {x0 : Nat} {x1 : Int32} {x2 : Int32} {M MO : zM} {v : Int32} (h0 : z_tm SH 3 x0) (hf : f_X3_after x0 x1 x2 M = some (v, MO)) : zMet l yX3_after cX3_after 5 (some .int) 1 0 0 [.ref x0, .int x1, .int x2] SH M (zDi SH v MO) := by
  refine zMet.of (by decide +kernel) (Nat.le_of_ble_eq_true rfl) (Or.inr (Or.inl rfl)) ?_
  show zA l yX3_after cX3_after 5 (some .int) 1 0 0 SH.length (zDi SH v MO) 0 0 0 [(0, .ref x0), (1, .int x1), (2, .int x2)] [] SH M
  unfold f_X3_after at hf
  refine z_iload_n dX3_after_0 rfl rfl ?_
  refine z_istore_n' (lv' := [(3, .int x1), (0, .ref x0), (1, .int x1), (2, .int x2)]) rfl dX3_after_1 (by decide) rfl rfl ?_
  refine z_iconst (v := 0) dX3_after_2 (by decide) ?_
  refine z_istore' (lv' := [(4, .int 0), (3, .int x1), (0, .ref x0), (1, .int x1), (2, .int x2)]) dX3_after_3 (by decide) rfl rfl ?_
  refine zA.pick [(0, .ref x0), (2, .int x2), (3, .int x1), (4, .int 0)] [2, 4, 1, 0] rfl ?_
  exact t_X3_after_5 h0 zF x1 0 M hf
noncomputable def f_X3_placeOf (x0 : Nat) (x1 : Int32) (x2 : Int32) (M : zM) : Option (Int32 × zM) :=
  z_call (f_X3_roundOf x0 x1 M) fun v_1 M_2 => (if v_1 ≤ 0 then some (x1, M_2) else if ¬ ((v_1 : Int32) = 0) then z_call (f_X3_after x0 x1 (x2 - x2 / v_1 * v_1) M_2) fun v_6 M_7 => some (v_6, M_7) else none)
set_option maxHeartbeats 2000000 in
set_option maxRecDepth 20000 in
theorem t_X3_placeOf {l : Launch} {x0 : Nat} {x1 : Int32} {x2 : Int32} {M MO : zM} {v : Int32} (h0 : z_tm SH 3 x0) (hf : f_X3_placeOf x0 x1 x2 M = some (v, MO)) : zMet l yX3_placeOf cX3_placeOf 4 (some .int) 2 0 0 [.ref x0, .int x1, .int x2] SH M (zDi SH v MO) := by
  refine zMet.of (by decide +kernel) (Nat.le_of_ble_eq_true rfl) (Or.inr (Or.inl rfl)) ?_
  show zA l yX3_placeOf cX3_placeOf 4 (some .int) 2 0 0 SH.length (zDi SH v MO) 0 0 0 [(0, .ref x0), (1, .int x1), (2, .int x2)] [] SH M
  unfold f_X3_placeOf at hf
  refine z_aload_n dX3_placeOf_0 rfl rfl ?_
  refine z_iload_n dX3_placeOf_1 rfl rfl ?_
  obtain ⟨v_1, M_2, c_3, hf⟩ := z_call_some hf
  refine z_cVi (t_X3_roundOf h0 c_3) kw_X3_roundOf lk_X3_31 h0 rfl (by decide) rfl (Nat.le_of_ble_eq_true rfl) ⟨Nat.le_refl 0, Nat.le_refl 0⟩ dX3_placeOf_2 ?_
  refine z_istore_n' (lv' := [(3, .int v_1), (0, .ref x0), (1, .int x1), (2, .int x2)]) rfl dX3_placeOf_5 (by decide) rfl rfl ?_
  refine z_iload_n dX3_placeOf_6 rfl rfl ?_
  refine z_if_le (tgt := 21) dX3_placeOf_7 (by decide) (fun q_4 => ?_) (fun q_4 => ?_)
  · have hf := (if_pos q_4).symm.trans hf
    refine z_iload_n dX3_placeOf_21 rfl rfl ?_
    obtain ⟨rfl, rfl⟩ := z_end hf
    exact z_iret ⟨rfl, rfl, rfl⟩ (Or.inl rfl) dX3_placeOf_22
  · have hf := (if_neg q_4).symm.trans hf
    refine z_aload_n dX3_placeOf_10 rfl rfl ?_
    refine z_iload_n dX3_placeOf_11 rfl rfl ?_
    refine z_iload_n dX3_placeOf_12 rfl rfl ?_
    refine z_iload_n dX3_placeOf_13 rfl rfl ?_
    obtain ⟨g_5, hf⟩ := z_ifs hf
    refine z_irem dX3_placeOf_14 g_5 ?_
    obtain ⟨v_6, M_7, c_8, hf⟩ := z_call_some hf
    refine z_cVi (t_X3_after h0 c_8) kw_X3_after lk_X3_41 h0 rfl (by decide) rfl (Nat.le_of_ble_eq_true rfl) ⟨Nat.le_refl 0, Nat.le_refl 0⟩ dX3_placeOf_15 ?_
    refine z_goto (tgt := 22) dX3_placeOf_18 (by decide) ?_
    obtain ⟨rfl, rfl⟩ := z_end hf
    exact z_iret ⟨rfl, rfl, rfl⟩ (Or.inl rfl) dX3_placeOf_22
noncomputable def f_X9_readTaps_44 (x0 : Nat) (x1 : Int32) (M : zM) : Option (Int32 × zM) :=
  z_call (f_X10_sign x0 M) fun v_1 M_2 => (if v_1 = 120 then z_call (f_X10_failAt x0 2 (M_2.1 x0 3) M_2) fun v_5 M_6 => some (x1, M_6) else some (x1, M_2))
set_option maxHeartbeats 2000000 in
set_option maxRecDepth 20000 in
theorem t_X9_readTaps_44 {l : Launch} {x0 : Nat} {x1 : Int32} {M MO : zM} {v : Int32} (h0 : z_tm SH 9 x0) (hf : f_X9_readTaps_44 x0 x1 M = some (v, MO)) : zA l yX9_readTaps cX9_readTaps 3 (some .int) 2 0 0 SH.length (zDi SH v MO) 0 0 44 [(0, .ref x0), (1, .int x1)] [] SH M := by
  unfold f_X9_readTaps_44 at hf
  refine z_aload_n dX9_readTaps_44 rfl rfl ?_
  obtain ⟨v_1, M_2, c_3, hf⟩ := z_call_some hf
  refine z_cVi (t_X10_sign h0 c_3) kw_X10_sign lk_X9_25 h0 rfl (by decide) rfl (Nat.le_of_ble_eq_true rfl) ⟨Nat.le_refl 0, Nat.le_refl 0⟩ dX9_readTaps_45 ?_
  refine z_bipush (v := 120) dX9_readTaps_48 (by decide) ?_
  refine z_icmp_ne (tgt := 62) dX9_readTaps_50 (by decide) (fun q_4 => ?_) (fun q_4 => ?_)
  · have hf := (if_neg q_4).symm.trans hf
    refine z_iload_n dX9_readTaps_62 rfl rfl ?_
    obtain ⟨rfl, rfl⟩ := z_end hf
    exact z_iret ⟨rfl, rfl, rfl⟩ (Or.inl rfl) dX9_readTaps_63
  · have hf := (if_pos q_4).symm.trans hf
    refine z_aload_n dX9_readTaps_53 rfl rfl ?_
    refine z_iconst (v := 2) dX9_readTaps_54 (by decide) ?_
    refine z_aload_n dX9_readTaps_55 rfl rfl ?_
    refine zgI fl_X9_33 h0 (fun _ => rfl) dX9_readTaps_56 ?_
    obtain ⟨v_5, M_6, c_7, hf⟩ := z_call_some hf
    refine z_cVv (t_X10_failAt h0 c_7) kw_X10_failAt lk_X9_37 h0 rfl (by decide) rfl (Nat.le_of_ble_eq_true rfl) ⟨Nat.le_refl 0, Nat.le_refl 0⟩ dX9_readTaps_59 ?_
    refine z_iload_n dX9_readTaps_62 rfl rfl ?_
    obtain ⟨rfl, rfl⟩ := z_end hf
    exact z_iret ⟨rfl, rfl, rfl⟩ (Or.inl rfl) dX9_readTaps_63
noncomputable def f_X9_readTaps_31 (x0 : Nat) (x1 : Int32) (M : zM) : Option (Int32 × zM) :=
  (if x1 = 0 then z_call (f_X10_failAt x0 1 (M.1 x0 3) M) fun v_2 M_3 => (f_X9_readTaps_44 x0 x1 M_3) else (f_X9_readTaps_44 x0 x1 M))
set_option maxHeartbeats 2000000 in
set_option maxRecDepth 20000 in
theorem t_X9_readTaps_31 {l : Launch} {x0 : Nat} {x1 : Int32} {M MO : zM} {v : Int32} (h0 : z_tm SH 9 x0) (hf : f_X9_readTaps_31 x0 x1 M = some (v, MO)) : zA l yX9_readTaps cX9_readTaps 3 (some .int) 2 0 0 SH.length (zDi SH v MO) 0 0 31 [(0, .ref x0), (1, .int x1)] [] SH M := by
  unfold f_X9_readTaps_31 at hf
  refine z_iload_n dX9_readTaps_31 rfl rfl ?_
  refine z_if_ne (tgt := 44) dX9_readTaps_32 (by decide) (fun q_1 => ?_) (fun q_1 => ?_)
  · have hf := (if_neg q_1).symm.trans hf
    exact t_X9_readTaps_44 h0 hf
  · have hf := (if_pos q_1).symm.trans hf
    refine z_aload_n dX9_readTaps_35 rfl rfl ?_
    refine z_iconst (v := 1) dX9_readTaps_36 (by decide) ?_
    refine z_aload_n dX9_readTaps_37 rfl rfl ?_
    refine zgI fl_X9_33 h0 (fun _ => rfl) dX9_readTaps_38 ?_
    obtain ⟨v_2, M_3, c_4, hf⟩ := z_call_some hf
    refine z_cVv (t_X10_failAt h0 c_4) kw_X10_failAt lk_X9_37 h0 rfl (by decide) rfl (Nat.le_of_ble_eq_true rfl) ⟨Nat.le_refl 0, Nat.le_refl 0⟩ dX9_readTaps_41 ?_
    exact t_X9_readTaps_44 h0 hf
noncomputable def f_X9_readTaps_4 (x0 : Nat) : Nat → Int32 → Int32 → zM → Option (Int32 × zM)
  | 0, _, _, _ => none
  | n + 1, x1, x2, M =>
    (if 5 ≤ x2 then (f_X9_readTaps_31 x0 x1 M) else z_call (f_X10_sign x0 M) fun v_2 M_3 => (if v_2 = 120 then z_call (f_X10_step x0 M_3) fun v_6 M_7 => zl (x1 + 1) fun x1_9 => zl (x2 + 1) fun x2_10 => (f_X9_readTaps_4 x0 n x1_9 x2_10 M_7) else (f_X9_readTaps_31 x0 x1 M_3)))
set_option maxHeartbeats 2000000 in
set_option maxRecDepth 20000 in
theorem t_X9_readTaps_4 {l : Launch} {x0 : Nat} {MO : zM} {v : Int32} (h0 : z_tm SH 9 x0) : ∀ (n : Nat) (x1 : Int32) (x2 : Int32) (M : zM), f_X9_readTaps_4 x0 n x1 x2 M = some (v, MO) → zA l yX9_readTaps cX9_readTaps 3 (some .int) 2 0 0 SH.length (zDi SH v MO) 0 0 4 [(0, .ref x0), (1, .int x1), (2, .int x2)] [] SH M := by
  intro n
  induction n with
  | zero =>
    intro x1 x2 M hf
    rw [f_X9_readTaps_4] at hf
    cases hf
  | succ n ih =>
    intro x1 x2 M hf
    rw [f_X9_readTaps_4] at hf
    refine z_iload_n dX9_readTaps_4 rfl rfl ?_
    refine z_iconst (v := 5) dX9_readTaps_5 (by decide) ?_
    refine z_icmp_ge (tgt := 31) dX9_readTaps_6 (by decide) (fun q_1 => ?_) (fun q_1 => ?_)
    · have hf := (if_pos q_1).symm.trans hf
      refine zA.pick [(0, .ref x0), (1, .int x1)] [0, 1] rfl ?_
      exact t_X9_readTaps_31 h0 hf
    · have hf := (if_neg q_1).symm.trans hf
      refine z_aload_n dX9_readTaps_9 rfl rfl ?_
      obtain ⟨v_2, M_3, c_4, hf⟩ := z_call_some hf
      refine z_cVi (t_X10_sign h0 c_4) kw_X10_sign lk_X9_25 h0 rfl (by decide) rfl (Nat.le_of_ble_eq_true rfl) ⟨Nat.le_refl 0, Nat.le_refl 0⟩ dX9_readTaps_10 ?_
      refine z_bipush (v := 120) dX9_readTaps_13 (by decide) ?_
      refine z_icmp_ne (tgt := 31) dX9_readTaps_15 (by decide) (fun q_5 => ?_) (fun q_5 => ?_)
      · have hf := (if_neg q_5).symm.trans hf
        refine zA.pick [(0, .ref x0), (1, .int x1)] [0, 1] rfl ?_
        exact t_X9_readTaps_31 h0 hf
      · have hf := (if_pos q_5).symm.trans hf
        refine z_aload_n dX9_readTaps_18 rfl rfl ?_
        obtain ⟨v_6, M_7, c_8, hf⟩ := z_call_some hf
        refine z_cVv (t_X10_step h0 c_8) kw_X10_step lk_X9_41 h0 rfl (by decide) rfl (Nat.le_of_ble_eq_true rfl) ⟨Nat.le_refl 0, Nat.le_refl 0⟩ dX9_readTaps_19 ?_
        obtain ⟨x1_9, ex1_9, hf⟩ := zl_some hf
        refine z_iinc' (lv' := [(1, .int x1_9), (0, .ref x0), (2, .int x2)]) dX9_readTaps_22 rfl (by decide) ex1_9 (by decide) rfl ?_
        obtain ⟨x2_10, ex2_10, hf⟩ := zl_some hf
        refine z_iinc' (lv' := [(2, .int x2_10), (1, .int x1_9), (0, .ref x0)]) dX9_readTaps_25 rfl (by decide) ex2_10 (by decide) rfl ?_
        refine z_goto (tgt := 4) dX9_readTaps_28 (by decide) ?_
        refine zA.pick [(0, .ref x0), (1, .int x1_9), (2, .int x2_10)] [2, 1, 0] rfl ?_
        exact ih x1_9 x2_10 M_7 hf
noncomputable def f_X9_readTaps (x0 : Nat) (M : zM) : Option (Int32 × zM) :=
  (f_X9_readTaps_4 x0 zF 0 0 M)
set_option maxHeartbeats 2000000 in
set_option maxRecDepth 20000 in
theorem t_X9_readTaps {l : Launch} {x0 : Nat} {M MO : zM} {v : Int32} (h0 : z_tm SH 9 x0) (hf : f_X9_readTaps x0 M = some (v, MO)) : zMet l yX9_readTaps cX9_readTaps 3 (some .int) 2 0 0 [.ref x0] SH M (zDi SH v MO) := by
  refine zMet.of (by decide +kernel) (Nat.le_of_ble_eq_true rfl) (Or.inr (Or.inl rfl)) ?_
  show zA l yX9_readTaps cX9_readTaps 3 (some .int) 2 0 0 SH.length (zDi SH v MO) 0 0 0 [(0, .ref x0)] [] SH M
  unfold f_X9_readTaps at hf
  refine z_iconst (v := 0) dX9_readTaps_0 (by decide) ?_
  refine z_istore_n' (lv' := [(1, .int 0), (0, .ref x0)]) rfl dX9_readTaps_1 (by decide) rfl rfl ?_
  refine z_iconst (v := 0) dX9_readTaps_2 (by decide) ?_
  refine z_istore_n' (lv' := [(2, .int 0), (1, .int 0), (0, .ref x0)]) rfl dX9_readTaps_3 (by decide) rfl rfl ?_
  refine zA.pick [(0, .ref x0), (1, .int 0), (2, .int 0)] [2, 1, 0] rfl ?_
  exact t_X9_readTaps_4 h0 zF 0 0 M hf
noncomputable def f_X9_readLetter (x0 : Nat) (M : zM) : Option (Int32 × zM) :=
  z_call (f_X9_readTaps x0 M) fun v_1 M_2 => z_call (f_X10_expect x0 46 M_2) fun v_4 M_5 => z_call (f_X9_readTaps x0 M_5) fun v_7 M_8 => zl (((((v_1 - 1) * 5) + v_7) - 1)) fun x3_10 => (if x3_10 < 10 then some (x3_10, M_8) else some ((x3_10 + 1), M_8))
set_option maxHeartbeats 2000000 in
set_option maxRecDepth 20000 in
theorem t_X9_readLetter {l : Launch} {x0 : Nat} {M MO : zM} {v : Int32} (h0 : z_tm SH 9 x0) (hf : f_X9_readLetter x0 M = some (v, MO)) : zMet l yX9_readLetter cX9_readLetter 4 (some .int) 3 0 0 [.ref x0] SH M (zDi SH v MO) := by
  refine zMet.of (by decide +kernel) (Nat.le_of_ble_eq_true rfl) (Or.inr (Or.inl rfl)) ?_
  show zA l yX9_readLetter cX9_readLetter 4 (some .int) 3 0 0 SH.length (zDi SH v MO) 0 0 0 [(0, .ref x0)] [] SH M
  unfold f_X9_readLetter at hf
  refine z_aload_n dX9_readLetter_0 rfl rfl ?_
  obtain ⟨v_1, M_2, c_3, hf⟩ := z_call_some hf
  refine z_cSi (t_X9_readTaps h0 c_3) kw_X9_readTaps lk_X9_48 rfl (by decide) rfl (Nat.le_of_ble_eq_true rfl) ⟨Nat.le_refl 0, Nat.le_refl 0⟩ dX9_readLetter_1 ?_
  refine z_istore_n' (lv' := [(1, .int v_1), (0, .ref x0)]) rfl dX9_readLetter_4 (by decide) rfl rfl ?_
  refine z_aload_n dX9_readLetter_5 rfl rfl ?_
  refine z_bipush (v := 46) dX9_readLetter_6 (by decide) ?_
  obtain ⟨v_4, M_5, c_6, hf⟩ := z_call_some hf
  refine z_cVv (t_X10_expect h0 c_6) kw_X10_expect lk_X9_51 h0 rfl (by decide) rfl (Nat.le_of_ble_eq_true rfl) ⟨Nat.le_refl 0, Nat.le_refl 0⟩ dX9_readLetter_8 ?_
  refine z_aload_n dX9_readLetter_11 rfl rfl ?_
  obtain ⟨v_7, M_8, c_9, hf⟩ := z_call_some hf
  refine z_cSi (t_X9_readTaps h0 c_9) kw_X9_readTaps lk_X9_48 rfl (by decide) rfl (Nat.le_of_ble_eq_true rfl) ⟨Nat.le_refl 0, Nat.le_refl 0⟩ dX9_readLetter_12 ?_
  refine z_istore_n' (lv' := [(2, .int v_7), (1, .int v_1), (0, .ref x0)]) rfl dX9_readLetter_15 (by decide) rfl rfl ?_
  refine z_iload_n dX9_readLetter_16 rfl rfl ?_
  refine z_iconst (v := 1) dX9_readLetter_17 (by decide) ?_
  refine z_isub dX9_readLetter_18 ?_
  refine z_iconst (v := 5) dX9_readLetter_19 (by decide) ?_
  refine z_imul dX9_readLetter_20 ?_
  refine z_iload_n dX9_readLetter_21 rfl rfl ?_
  refine z_iadd dX9_readLetter_22 ?_
  refine z_iconst (v := 1) dX9_readLetter_23 (by decide) ?_
  refine z_isub dX9_readLetter_24 ?_
  obtain ⟨x3_10, ex3_10, hf⟩ := zl_some hf
  refine z_istore_n' (lv' := [(3, .int x3_10), (2, .int v_7), (1, .int v_1), (0, .ref x0)]) rfl dX9_readLetter_25 (by decide) ex3_10 rfl ?_
  refine z_iload_n dX9_readLetter_26 rfl rfl ?_
  refine z_bipush (v := 10) dX9_readLetter_27 (by decide) ?_
  refine z_icmp_lt (tgt := 38) dX9_readLetter_29 (by decide) (fun q_11 => ?_) (fun q_11 => ?_)
  · have hf := (if_pos q_11).symm.trans hf
    refine z_iload_n dX9_readLetter_38 rfl rfl ?_
    obtain ⟨rfl, rfl⟩ := z_end hf
    exact z_iret ⟨rfl, rfl, rfl⟩ (Or.inl rfl) dX9_readLetter_39
  · have hf := (if_neg q_11).symm.trans hf
    refine z_iload_n dX9_readLetter_32 rfl rfl ?_
    refine z_iconst (v := 1) dX9_readLetter_33 (by decide) ?_
    refine z_iadd dX9_readLetter_34 ?_
    refine z_goto (tgt := 39) dX9_readLetter_35 (by decide) ?_
    obtain ⟨rfl, rfl⟩ := z_end hf
    exact z_iret ⟨rfl, rfl, rfl⟩ (Or.inl rfl) dX9_readLetter_39
noncomputable def f_X9_readGap (x0 : Nat) (M : zM) : Option (Unit × zM) :=
  z_call (f_X10_expect x0 46 M) fun v_1 M_2 => z_call (f_X10_expect x0 46 M_2) fun v_4 M_5 => z_call (f_X10_sign x0 M_5) fun v_7 M_8 => (if v_7 = 46 then z_call (f_X10_failAt x0 3 (M_8.1 x0 3) M_8) fun v_11 M_12 => some ((), M_12) else some ((), M_8))
set_option maxHeartbeats 2000000 in
set_option maxRecDepth 20000 in
theorem t_X9_readGap {l : Launch} {x0 : Nat} {M MO : zM} {v : Unit} (h0 : z_tm SH 9 x0) (hf : f_X9_readGap x0 M = some (v, MO)) : zMet l yX9_readGap cX9_readGap 1 none 3 0 0 [.ref x0] SH M (zDv SH MO) := by
  refine zMet.of (by decide +kernel) (Nat.le_of_ble_eq_true rfl) (Or.inl rfl) ?_
  show zA l yX9_readGap cX9_readGap 1 none 3 0 0 SH.length (zDv SH MO) 0 0 0 [(0, .ref x0)] [] SH M
  unfold f_X9_readGap at hf
  refine z_aload_n dX9_readGap_0 rfl rfl ?_
  refine z_bipush (v := 46) dX9_readGap_1 (by decide) ?_
  obtain ⟨v_1, M_2, c_3, hf⟩ := z_call_some hf
  refine z_cVv (t_X10_expect h0 c_3) kw_X10_expect lk_X9_51 h0 rfl (by decide) rfl (Nat.le_of_ble_eq_true rfl) ⟨Nat.le_refl 0, Nat.le_refl 0⟩ dX9_readGap_3 ?_
  refine z_aload_n dX9_readGap_6 rfl rfl ?_
  refine z_bipush (v := 46) dX9_readGap_7 (by decide) ?_
  obtain ⟨v_4, M_5, c_6, hf⟩ := z_call_some hf
  refine z_cVv (t_X10_expect h0 c_6) kw_X10_expect lk_X9_51 h0 rfl (by decide) rfl (Nat.le_of_ble_eq_true rfl) ⟨Nat.le_refl 0, Nat.le_refl 0⟩ dX9_readGap_9 ?_
  refine z_aload_n dX9_readGap_12 rfl rfl ?_
  obtain ⟨v_7, M_8, c_9, hf⟩ := z_call_some hf
  refine z_cVi (t_X10_sign h0 c_9) kw_X10_sign lk_X9_25 h0 rfl (by decide) rfl (Nat.le_of_ble_eq_true rfl) ⟨Nat.le_refl 0, Nat.le_refl 0⟩ dX9_readGap_13 ?_
  refine z_bipush (v := 46) dX9_readGap_16 (by decide) ?_
  refine z_icmp_ne (tgt := 30) dX9_readGap_18 (by decide) (fun q_10 => ?_) (fun q_10 => ?_)
  · have hf := (if_neg q_10).symm.trans hf
    obtain ⟨rfl, rfl⟩ := z_end hf
    exact z_vret ⟨rfl, rfl, rfl⟩ rfl dX9_readGap_30
  · have hf := (if_pos q_10).symm.trans hf
    refine z_aload_n dX9_readGap_21 rfl rfl ?_
    refine z_iconst (v := 3) dX9_readGap_22 (by decide) ?_
    refine z_aload_n dX9_readGap_23 rfl rfl ?_
    refine zgI fl_X9_33 h0 (fun _ => rfl) dX9_readGap_24 ?_
    obtain ⟨v_11, M_12, c_13, hf⟩ := z_call_some hf
    refine z_cVv (t_X10_failAt h0 c_13) kw_X10_failAt lk_X9_37 h0 rfl (by decide) rfl (Nat.le_of_ble_eq_true rfl) ⟨Nat.le_refl 0, Nat.le_refl 0⟩ dX9_readGap_27 ?_
    obtain ⟨rfl, rfl⟩ := z_end hf
    exact z_vret ⟨rfl, rfl, rfl⟩ rfl dX9_readGap_30
noncomputable def f_X9_read_52 (x1 : Int32) (x2 : Int32) (x3 : Int32) (M : zM) : Option (Int32 × zM) :=
  (if x1 = 100 then some (x2, M) else some (x3, M))
set_option maxHeartbeats 2000000 in
set_option maxRecDepth 20000 in
theorem t_X9_read_52 {l : Launch} {x1 : Int32} {x2 : Int32} {x3 : Int32} {M MO : zM} {v : Int32} (hf : f_X9_read_52 x1 x2 x3 M = some (v, MO)) : zA l yX9_read cX9_read 6 (some .int) 4 0 0 SH.length (zDi SH v MO) 0 0 52 [(1, .int x1), (2, .int x2), (3, .int x3)] [] SH M := by
  unfold f_X9_read_52 at hf
  refine z_iload_n dX9_read_52 rfl rfl ?_
  refine z_bipush (v := 100) dX9_read_53 (by decide) ?_
  refine z_icmp_ne (tgt := 62) dX9_read_55 (by decide) (fun q_1 => ?_) (fun q_1 => ?_)
  · have hf := (if_neg q_1).symm.trans hf
    refine z_iload_n dX9_read_62 rfl rfl ?_
    obtain ⟨rfl, rfl⟩ := z_end hf
    exact z_iret ⟨rfl, rfl, rfl⟩ (Or.inl rfl) dX9_read_63
  · have hf := (if_pos q_1).symm.trans hf
    refine z_iload_n dX9_read_58 rfl rfl ?_
    refine z_goto (tgt := 63) dX9_read_59 (by decide) ?_
    obtain ⟨rfl, rfl⟩ := z_end hf
    exact z_iret ⟨rfl, rfl, rfl⟩ (Or.inl rfl) dX9_read_63
noncomputable def f_X9_read_29 (x0 : Nat) (x1 : Int32) (k8 : Int32 → Int32 → Int32 → zM → Option (Int32 × zM)) (x2 : Int32) (x3 : Int32) (x4 : Int32) (M : zM) : Option (Int32 × zM) :=
  zl (x2 + 1) fun x2_1 => z_call (f_X10_isOver x0 M) fun v_2 M_3 => (if v_2 = 0 then z_call (f_X9_readGap x0 M_3) fun v_6 M_7 => zl (x4 + 1) fun x4_9 => (k8 x2_1 x3 x4_9 M_7) else (f_X9_read_52 x1 x2_1 x3 M_3))
set_option maxHeartbeats 2000000 in
set_option maxRecDepth 20000 in
theorem t_X9_read_29 {l : Launch} {x0 : Nat} {x1 : Int32} {k8 : Int32 → Int32 → Int32 → zM → Option (Int32 × zM)} {x2 : Int32} {x3 : Int32} {x4 : Int32} {M MO : zM} {v : Int32} (h0 : z_tm SH 9 x0) (hk8 : ∀ (x2 : Int32) (x3 : Int32) (x4 : Int32) (M : zM), k8 x2 x3 x4 M = some (v, MO) → zA l yX9_read cX9_read 6 (some .int) 4 0 0 SH.length (zDi SH v MO) 0 0 8 [(0, .ref x0), (1, .int x1), (2, .int x2), (3, .int x3), (4, .int x4)] [] SH M) (hf : f_X9_read_29 x0 x1 k8 x2 x3 x4 M = some (v, MO)) : zA l yX9_read cX9_read 6 (some .int) 4 0 0 SH.length (zDi SH v MO) 0 0 29 [(0, .ref x0), (1, .int x1), (2, .int x2), (3, .int x3), (4, .int x4)] [] SH M := by
  unfold f_X9_read_29 at hf
  obtain ⟨x2_1, ex2_1, hf⟩ := zl_some hf
  refine z_iinc' (lv' := [(2, .int x2_1), (0, .ref x0), (1, .int x1), (3, .int x3), (4, .int x4)]) dX9_read_29 rfl (by decide) ex2_1 (by decide) rfl ?_
  refine z_aload_n dX9_read_32 rfl rfl ?_
  obtain ⟨v_2, M_3, c_4, hf⟩ := z_call_some hf
  refine z_cVi (t_X10_isOver h0 c_4) kw_X10_isOver lk_X9_15 h0 rfl (by decide) rfl (Nat.le_of_ble_eq_true rfl) ⟨Nat.le_refl 0, Nat.le_refl 0⟩ dX9_read_33 ?_
  refine z_if_eq (tgt := 42) dX9_read_36 (by decide) (fun q_5 => ?_) (fun q_5 => ?_)
  · have hf := (if_pos q_5).symm.trans hf
    refine z_aload_n dX9_read_42 rfl rfl ?_
    obtain ⟨v_6, M_7, c_8, hf⟩ := z_call_some hf
    refine z_cSv (t_X9_readGap h0 c_8) kw_X9_readGap lk_X9_21 rfl (by decide) rfl (Nat.le_of_ble_eq_true rfl) ⟨Nat.le_refl 0, Nat.le_refl 0⟩ dX9_read_43 ?_
    obtain ⟨x4_9, ex4_9, hf⟩ := zl_some hf
    refine z_iinc' (lv' := [(4, .int x4_9), (2, .int x2_1), (0, .ref x0), (1, .int x1), (3, .int x3)]) dX9_read_46 rfl (by decide) ex4_9 (by decide) rfl ?_
    refine z_goto (tgt := 8) dX9_read_49 (by decide) ?_
    refine zA.pick [(0, .ref x0), (1, .int x1), (2, .int x2_1), (3, .int x3), (4, .int x4_9)] [2, 3, 1, 4, 0] rfl ?_
    exact hk8 x2_1 x3 x4_9 M_7 hf
  · have hf := (if_neg q_5).symm.trans hf
    refine z_goto (tgt := 52) dX9_read_39 (by decide) ?_
    refine zA.pick [(1, .int x1), (2, .int x2_1), (3, .int x3)] [2, 0, 3] rfl ?_
    exact t_X9_read_52  hf
noncomputable def f_X9_read_8 (x0 : Nat) (x1 : Int32) : Nat → Int32 → Int32 → Int32 → zM → Option (Int32 × zM)
  | 0, _, _, _, _ => none
  | n + 1, x2, x3, x4, M =>
    (if 60 ≤ x4 then (f_X9_read_52 x1 x2 x3 M) else z_call (f_X9_readLetter x0 M) fun v_2 M_3 => (if x2 = x1 then (f_X9_read_29 x0 x1 (f_X9_read_8 x0 x1 n) x2 v_2 x4 M_3) else (f_X9_read_29 x0 x1 (f_X9_read_8 x0 x1 n) x2 x3 x4 M_3)))
set_option maxHeartbeats 2000000 in
set_option maxRecDepth 20000 in
theorem t_X9_read_8 {l : Launch} {x0 : Nat} {x1 : Int32} {MO : zM} {v : Int32} (h0 : z_tm SH 9 x0) : ∀ (n : Nat) (x2 : Int32) (x3 : Int32) (x4 : Int32) (M : zM), f_X9_read_8 x0 x1 n x2 x3 x4 M = some (v, MO) → zA l yX9_read cX9_read 6 (some .int) 4 0 0 SH.length (zDi SH v MO) 0 0 8 [(0, .ref x0), (1, .int x1), (2, .int x2), (3, .int x3), (4, .int x4)] [] SH M := by
  intro n
  induction n with
  | zero =>
    intro x2 x3 x4 M hf
    rw [f_X9_read_8] at hf
    cases hf
  | succ n ih =>
    intro x2 x3 x4 M hf
    rw [f_X9_read_8] at hf
    refine z_iload dX9_read_8 rfl ?_
    refine z_bipush (v := 60) dX9_read_10 (by decide) ?_
    refine z_icmp_ge (tgt := 52) dX9_read_12 (by decide) (fun q_1 => ?_) (fun q_1 => ?_)
    · have hf := (if_pos q_1).symm.trans hf
      refine zA.pick [(1, .int x1), (2, .int x2), (3, .int x3)] [1, 2, 3] rfl ?_
      exact t_X9_read_52  hf
    · have hf := (if_neg q_1).symm.trans hf
      refine z_aload_n dX9_read_15 rfl rfl ?_
      obtain ⟨v_2, M_3, c_4, hf⟩ := z_call_some hf
      refine z_cSi (t_X9_readLetter h0 c_4) kw_X9_readLetter lk_X9_9 rfl (by decide) rfl (Nat.le_of_ble_eq_true rfl) ⟨Nat.le_refl 0, Nat.le_refl 0⟩ dX9_read_16 ?_
      refine z_istore' (lv' := [(5, .int v_2), (0, .ref x0), (1, .int x1), (2, .int x2), (3, .int x3), (4, .int x4)]) dX9_read_19 (by decide) rfl rfl ?_
      refine z_iload_n dX9_read_21 rfl rfl ?_
      refine z_iload_n dX9_read_22 rfl rfl ?_
      refine z_icmp_ne (tgt := 29) dX9_read_23 (by decide) (fun q_5 => ?_) (fun q_5 => ?_)
      · have hf := (if_neg q_5).symm.trans hf
        refine zA.pick [(0, .ref x0), (1, .int x1), (2, .int x2), (3, .int x3), (4, .int x4)] [1, 2, 3, 4, 5] rfl ?_
        exact t_X9_read_29 h0 ih hf
      · have hf := (if_pos q_5).symm.trans hf
        refine z_iload dX9_read_26 rfl ?_
        refine z_istore_n' (lv' := [(3, .int v_2), (5, .int v_2), (0, .ref x0), (1, .int x1), (2, .int x2), (4, .int x4)]) rfl dX9_read_28 (by decide) rfl rfl ?_
        refine zA.pick [(0, .ref x0), (1, .int x1), (2, .int x2), (3, .int v_2), (4, .int x4)] [2, 3, 4, 0, 5] rfl ?_
        exact t_X9_read_29 h0 ih hf
noncomputable def f_X9_read (x0 : Nat) (x1 : Int32) (M : zM) : Option (Int32 × zM) :=
  (f_X9_read_8 x0 x1 zF 0 (-4) 0 M)
set_option maxHeartbeats 2000000 in
set_option maxRecDepth 20000 in
theorem t_X9_read {l : Launch} {x0 : Nat} {x1 : Int32} {M MO : zM} {v : Int32} (h0 : z_tm SH 9 x0) (hf : f_X9_read x0 x1 M = some (v, MO)) : zMet l yX9_read cX9_read 6 (some .int) 4 0 0 [.ref x0, .int x1] SH M (zDi SH v MO) := by
  refine zMet.of (by decide +kernel) (Nat.le_of_ble_eq_true rfl) (Or.inr (Or.inl rfl)) ?_
  show zA l yX9_read cX9_read 6 (some .int) 4 0 0 SH.length (zDi SH v MO) 0 0 0 [(0, .ref x0), (1, .int x1)] [] SH M
  unfold f_X9_read at hf
  refine z_iconst (v := 0) dX9_read_0 (by decide) ?_
  refine z_istore_n' (lv' := [(2, .int 0), (0, .ref x0), (1, .int x1)]) rfl dX9_read_1 (by decide) rfl rfl ?_
  refine z_bipush (v := (-4)) dX9_read_2 (by decide) ?_
  refine z_istore_n' (lv' := [(3, .int (-4)), (2, .int 0), (0, .ref x0), (1, .int x1)]) rfl dX9_read_4 (by decide) rfl rfl ?_
  refine z_iconst (v := 0) dX9_read_5 (by decide) ?_
  refine z_istore' (lv' := [(4, .int 0), (3, .int (-4)), (2, .int 0), (0, .ref x0), (1, .int x1)]) dX9_read_6 (by decide) rfl rfl ?_
  refine zA.pick [(0, .ref x0), (1, .int x1), (2, .int 0), (3, .int (-4)), (4, .int 0)] [3, 4, 2, 1, 0] rfl ?_
  exact t_X9_read_8 h0 zF 0 (-4) 0 M hf
noncomputable def f_X11_isWithin (x0 : Int32) (x1 : Int32) (x2 : Int32) (M : zM) : Option (Int32 × zM) :=
  (if x0 < x1 then some (0, M) else (if x2 < x0 then some (0, M) else some (1, M)))
set_option maxHeartbeats 2000000 in
set_option maxRecDepth 20000 in
theorem t_X11_isWithin {l : Launch} {x0 : Int32} {x1 : Int32} {x2 : Int32} {M MO : zM} {v : Int32} (hf : f_X11_isWithin x0 x1 x2 M = some (v, MO)) : zMet l yX11_isWithin cX11_isWithin 3 (some .boolean) 1 0 0 [.int x0, .int x1, .int x2] SH M (zDi SH v MO) := by
  refine zMet.of (by decide +kernel) (Nat.le_of_ble_eq_true rfl) (Or.inr (Or.inr (Or.inl rfl))) ?_
  show zA l yX11_isWithin cX11_isWithin 3 (some .boolean) 1 0 0 SH.length (zDi SH v MO) 0 0 0 [(0, .int x0), (1, .int x1), (2, .int x2)] [] SH M
  unfold f_X11_isWithin at hf
  refine z_iload_n dX11_isWithin_0 rfl rfl ?_
  refine z_iload_n dX11_isWithin_1 rfl rfl ?_
  refine z_icmp_lt (tgt := 14) dX11_isWithin_2 (by decide) (fun q_1 => ?_) (fun q_1 => ?_)
  · have hf := (if_pos q_1).symm.trans hf
    refine z_iconst (v := 0) dX11_isWithin_14 (by decide) ?_
    obtain ⟨rfl, rfl⟩ := z_end hf
    exact z_iret ⟨rfl, rfl, rfl⟩ (Or.inr ⟨rfl, (Or.inl rfl)⟩) dX11_isWithin_15
  · have hf := (if_neg q_1).symm.trans hf
    refine z_iload_n dX11_isWithin_5 rfl rfl ?_
    refine z_iload_n dX11_isWithin_6 rfl rfl ?_
    refine z_icmp_gt (tgt := 14) dX11_isWithin_7 (by decide) (fun q_2 => ?_) (fun q_2 => ?_)
    · have hf := (if_pos q_2).symm.trans hf
      refine z_iconst (v := 0) dX11_isWithin_14 (by decide) ?_
      obtain ⟨rfl, rfl⟩ := z_end hf
      exact z_iret ⟨rfl, rfl, rfl⟩ (Or.inr ⟨rfl, (Or.inl rfl)⟩) dX11_isWithin_15
    · have hf := (if_neg q_2).symm.trans hf
      refine z_iconst (v := 1) dX11_isWithin_10 (by decide) ?_
      refine z_goto (tgt := 15) dX11_isWithin_11 (by decide) ?_
      obtain ⟨rfl, rfl⟩ := z_end hf
      exact z_iret ⟨rfl, rfl, rfl⟩ (Or.inr ⟨rfl, (Or.inr rfl)⟩) dX11_isWithin_15
noncomputable def f_X9_tapsOf_23 (s0 : Int32) (M : zM) : Option (Int32 × zM) :=
  some (((((s0 / 5) + 1) + (s0 - s0 / 5 * 5)) + 1), M)
set_option maxHeartbeats 2000000 in
set_option maxRecDepth 20000 in
theorem t_X9_tapsOf_23 {l : Launch} {s0 : Int32} {M MO : zM} {v : Int32} (hf : f_X9_tapsOf_23  s0 M = some (v, MO)) : zA l yX9_tapsOf cX9_tapsOf 2 (some .int) 1 0 0 SH.length (zDi SH v MO) 0 0 23 [] [.int s0] SH M := by
  unfold f_X9_tapsOf_23 at hf
  refine z_istore_n' (lv' := [(1, .int s0)]) rfl dX9_tapsOf_23 (by decide) rfl rfl ?_
  refine z_iload_n dX9_tapsOf_24 rfl rfl ?_
  refine z_iconst (v := 5) dX9_tapsOf_25 (by decide) ?_
  refine z_idiv dX9_tapsOf_26 (by decide) ?_
  refine z_iconst (v := 1) dX9_tapsOf_27 (by decide) ?_
  refine z_iadd dX9_tapsOf_28 ?_
  refine z_iload_n dX9_tapsOf_29 rfl rfl ?_
  refine z_iconst (v := 5) dX9_tapsOf_30 (by decide) ?_
  refine z_irem dX9_tapsOf_31 (by decide) ?_
  refine z_iadd dX9_tapsOf_32 ?_
  refine z_iconst (v := 1) dX9_tapsOf_33 (by decide) ?_
  refine z_iadd dX9_tapsOf_34 ?_
  obtain ⟨rfl, rfl⟩ := z_end hf
  exact z_iret ⟨rfl, rfl, rfl⟩ (Or.inl rfl) dX9_tapsOf_35
noncomputable def f_X9_tapsOf (x0 : Int32) (M : zM) : Option (Int32 × zM) :=
  (if x0 = 10 then (f_X9_tapsOf_23 2 M) else (if x0 ≤ 10 then (f_X9_tapsOf_23 x0 M) else (f_X9_tapsOf_23 (x0 - 1) M)))
set_option maxHeartbeats 2000000 in
set_option maxRecDepth 20000 in
theorem t_X9_tapsOf {l : Launch} {x0 : Int32} {M MO : zM} {v : Int32} (hf : f_X9_tapsOf x0 M = some (v, MO)) : zMet l yX9_tapsOf cX9_tapsOf 2 (some .int) 1 0 0 [.int x0] SH M (zDi SH v MO) := by
  refine zMet.of (by decide +kernel) (Nat.le_of_ble_eq_true rfl) (Or.inr (Or.inl rfl)) ?_
  show zA l yX9_tapsOf cX9_tapsOf 2 (some .int) 1 0 0 SH.length (zDi SH v MO) 0 0 0 [(0, .int x0)] [] SH M
  unfold f_X9_tapsOf at hf
  refine z_iload_n dX9_tapsOf_0 rfl rfl ?_
  refine z_bipush (v := 10) dX9_tapsOf_1 (by decide) ?_
  refine z_icmp_ne (tgt := 10) dX9_tapsOf_3 (by decide) (fun q_1 => ?_) (fun q_1 => ?_)
  · have hf := (if_neg q_1).symm.trans hf
    refine z_iload_n dX9_tapsOf_10 rfl rfl ?_
    refine z_bipush (v := 10) dX9_tapsOf_11 (by decide) ?_
    refine z_icmp_le (tgt := 22) dX9_tapsOf_13 (by decide) (fun q_2 => ?_) (fun q_2 => ?_)
    · have hf := (if_pos q_2).symm.trans hf
      refine z_iload_n dX9_tapsOf_22 rfl rfl ?_
      refine zA.pick [] [] rfl ?_
      exact t_X9_tapsOf_23  hf
    · have hf := (if_neg q_2).symm.trans hf
      refine z_iload_n dX9_tapsOf_16 rfl rfl ?_
      refine z_iconst (v := 1) dX9_tapsOf_17 (by decide) ?_
      refine z_isub dX9_tapsOf_18 ?_
      refine z_goto (tgt := 23) dX9_tapsOf_19 (by decide) ?_
      refine zA.pick [] [] rfl ?_
      exact t_X9_tapsOf_23  hf
  · have hf := (if_pos q_1).symm.trans hf
    refine z_iconst (v := 2) dX9_tapsOf_6 (by decide) ?_
    refine z_goto (tgt := 23) dX9_tapsOf_7 (by decide) ?_
    refine zA.pick [] [] rfl ?_
    exact t_X9_tapsOf_23  hf
noncomputable def f_X9_lengthOf_5 (x0 : Nat) : Nat → Int32 → Int32 → zM → Option (Int32 × zM)
  | 0, _, _, _ => none
  | n + 1, x1, x2, M =>
    (if 40 ≤ x2 then some (x1, M) else z_call (f_X10_isOver x0 M) fun v_2 M_3 => (if v_2 = 0 then z_call (f_X10_sign x0 M_3) fun v_6 M_7 => zl ((v_6 - 65)) fun x3_9 => z_call (f_X11_isWithin x3_9 0 25 M_7) fun v_10 M_11 => (if v_10 = 0 then z_call (f_X10_failAt x0 1 (M_11.1 x0 3) M_11) fun v_22 M_23 => some ((-1), M_23) else z_call (f_X10_step x0 M_11) fun v_14 M_15 => z_call (f_X9_tapsOf x3_9 M_15) fun v_17 M_18 => zl ((x1 + ((2 + v_17) + 1))) fun x1_20 => zl (x2 + 1) fun x2_21 => (f_X9_lengthOf_5 x0 n x1_20 x2_21 M_18)) else some (x1, M_3)))
set_option maxHeartbeats 2000000 in
set_option maxRecDepth 20000 in
theorem t_X9_lengthOf_5 {l : Launch} {x0 : Nat} {MO : zM} {v : Int32} (h0 : z_tm SH 9 x0) : ∀ (n : Nat) (x1 : Int32) (x2 : Int32) (M : zM), f_X9_lengthOf_5 x0 n x1 x2 M = some (v, MO) → zA l yX9_lengthOf cX9_lengthOf 4 (some .int) 2 0 0 SH.length (zDi SH v MO) 0 0 5 [(0, .ref x0), (1, .int x1), (2, .int x2)] [] SH M := by
  intro n
  induction n with
  | zero =>
    intro x1 x2 M hf
    rw [f_X9_lengthOf_5] at hf
    cases hf
  | succ n ih =>
    intro x1 x2 M hf
    rw [f_X9_lengthOf_5] at hf
    refine z_iload_n dX9_lengthOf_5 rfl rfl ?_
    refine z_bipush (v := 40) dX9_lengthOf_6 (by decide) ?_
    refine z_icmp_ge (tgt := 68) dX9_lengthOf_8 (by decide) (fun q_1 => ?_) (fun q_1 => ?_)
    · have hf := (if_pos q_1).symm.trans hf
      refine z_iload_n dX9_lengthOf_68 rfl rfl ?_
      obtain ⟨rfl, rfl⟩ := z_end hf
      exact z_iret ⟨rfl, rfl, rfl⟩ (Or.inl rfl) dX9_lengthOf_69
    · have hf := (if_neg q_1).symm.trans hf
      refine z_aload_n dX9_lengthOf_11 rfl rfl ?_
      obtain ⟨v_2, M_3, c_4, hf⟩ := z_call_some hf
      refine z_cVi (t_X10_isOver h0 c_4) kw_X10_isOver lk_X9_15 h0 rfl (by decide) rfl (Nat.le_of_ble_eq_true rfl) ⟨Nat.le_refl 0, Nat.le_refl 0⟩ dX9_lengthOf_12 ?_
      refine z_if_ne (tgt := 68) dX9_lengthOf_15 (by decide) (fun q_5 => ?_) (fun q_5 => ?_)
      · have hf := (if_neg q_5).symm.trans hf
        refine z_iload_n dX9_lengthOf_68 rfl rfl ?_
        obtain ⟨rfl, rfl⟩ := z_end hf
        exact z_iret ⟨rfl, rfl, rfl⟩ (Or.inl rfl) dX9_lengthOf_69
      · have hf := (if_pos q_5).symm.trans hf
        refine z_aload_n dX9_lengthOf_18 rfl rfl ?_
        obtain ⟨v_6, M_7, c_8, hf⟩ := z_call_some hf
        refine z_cVi (t_X10_sign h0 c_8) kw_X10_sign lk_X9_25 h0 rfl (by decide) rfl (Nat.le_of_ble_eq_true rfl) ⟨Nat.le_refl 0, Nat.le_refl 0⟩ dX9_lengthOf_19 ?_
        refine z_bipush (v := 65) dX9_lengthOf_22 (by decide) ?_
        refine z_isub dX9_lengthOf_24 ?_
        obtain ⟨x3_9, ex3_9, hf⟩ := zl_some hf
        refine z_istore_n' (lv' := [(3, .int x3_9), (0, .ref x0), (1, .int x1), (2, .int x2)]) rfl dX9_lengthOf_25 (by decide) ex3_9 rfl ?_
        refine z_iload_n dX9_lengthOf_26 rfl rfl ?_
        refine z_iconst (v := 0) dX9_lengthOf_27 (by decide) ?_
        refine z_bipush (v := 25) dX9_lengthOf_28 (by decide) ?_
        obtain ⟨v_10, M_11, c_12, hf⟩ := z_call_some hf
        refine z_cSi (t_X11_isWithin  c_12) kw_X11_isWithin lk_X9_29 rfl (by decide) rfl (Nat.le_of_ble_eq_true rfl) ⟨Nat.le_refl 0, Nat.le_refl 0⟩ dX9_lengthOf_30 ?_
        refine z_if_ne (tgt := 47) dX9_lengthOf_33 (by decide) (fun q_13 => ?_) (fun q_13 => ?_)
        · have hf := (if_neg q_13).symm.trans hf
          refine z_aload_n dX9_lengthOf_47 rfl rfl ?_
          obtain ⟨v_14, M_15, c_16, hf⟩ := z_call_some hf
          refine z_cVv (t_X10_step h0 c_16) kw_X10_step lk_X9_41 h0 rfl (by decide) rfl (Nat.le_of_ble_eq_true rfl) ⟨Nat.le_refl 0, Nat.le_refl 0⟩ dX9_lengthOf_48 ?_
          refine z_iload_n dX9_lengthOf_51 rfl rfl ?_
          refine z_iconst (v := 2) dX9_lengthOf_52 (by decide) ?_
          refine z_iload_n dX9_lengthOf_53 rfl rfl ?_
          obtain ⟨v_17, M_18, c_19, hf⟩ := z_call_some hf
          refine z_cSi (t_X9_tapsOf  c_19) kw_X9_tapsOf lk_X9_44 rfl (by decide) rfl (Nat.le_of_ble_eq_true rfl) ⟨Nat.le_refl 0, Nat.le_refl 0⟩ dX9_lengthOf_54 ?_
          refine z_iadd dX9_lengthOf_57 ?_
          refine z_iconst (v := 1) dX9_lengthOf_58 (by decide) ?_
          refine z_iadd dX9_lengthOf_59 ?_
          refine z_iadd dX9_lengthOf_60 ?_
          obtain ⟨x1_20, ex1_20, hf⟩ := zl_some hf
          refine z_istore_n' (lv' := [(1, .int x1_20), (3, .int x3_9), (0, .ref x0), (2, .int x2)]) rfl dX9_lengthOf_61 (by decide) ex1_20 rfl ?_
          obtain ⟨x2_21, ex2_21, hf⟩ := zl_some hf
          refine z_iinc' (lv' := [(2, .int x2_21), (1, .int x1_20), (3, .int x3_9), (0, .ref x0)]) dX9_lengthOf_62 rfl (by decide) ex2_21 (by decide) rfl ?_
          refine z_goto (tgt := 5) dX9_lengthOf_65 (by decide) ?_
          refine zA.pick [(0, .ref x0), (1, .int x1_20), (2, .int x2_21)] [3, 1, 0] rfl ?_
          exact ih x1_20 x2_21 M_18 hf
        · have hf := (if_pos q_13).symm.trans hf
          refine z_aload_n dX9_lengthOf_36 rfl rfl ?_
          refine z_iconst (v := 1) dX9_lengthOf_37 (by decide) ?_
          refine z_aload_n dX9_lengthOf_38 rfl rfl ?_
          refine zgI fl_X9_33 h0 (fun _ => rfl) dX9_lengthOf_39 ?_
          obtain ⟨v_22, M_23, c_24, hf⟩ := z_call_some hf
          refine z_cVv (t_X10_failAt h0 c_24) kw_X10_failAt lk_X9_37 h0 rfl (by decide) rfl (Nat.le_of_ble_eq_true rfl) ⟨Nat.le_refl 0, Nat.le_refl 0⟩ dX9_lengthOf_42 ?_
          refine z_iconst (v := (-1)) dX9_lengthOf_45 (by decide) ?_
          obtain ⟨rfl, rfl⟩ := z_end hf
          exact z_iret ⟨rfl, rfl, rfl⟩ (Or.inl rfl) dX9_lengthOf_46
noncomputable def f_X9_lengthOf (x0 : Nat) (M : zM) : Option (Int32 × zM) :=
  (f_X9_lengthOf_5 x0 zF (-2) 0 M)
set_option maxHeartbeats 2000000 in
set_option maxRecDepth 20000 in
theorem t_X9_lengthOf {l : Launch} {x0 : Nat} {M MO : zM} {v : Int32} (h0 : z_tm SH 9 x0) (hf : f_X9_lengthOf x0 M = some (v, MO)) : zMet l yX9_lengthOf cX9_lengthOf 4 (some .int) 2 0 0 [.ref x0] SH M (zDi SH v MO) := by
  refine zMet.of (by decide +kernel) (Nat.le_of_ble_eq_true rfl) (Or.inr (Or.inl rfl)) ?_
  show zA l yX9_lengthOf cX9_lengthOf 4 (some .int) 2 0 0 SH.length (zDi SH v MO) 0 0 0 [(0, .ref x0)] [] SH M
  unfold f_X9_lengthOf at hf
  refine z_bipush (v := (-2)) dX9_lengthOf_0 (by decide) ?_
  refine z_istore_n' (lv' := [(1, .int (-2)), (0, .ref x0)]) rfl dX9_lengthOf_2 (by decide) rfl rfl ?_
  refine z_iconst (v := 0) dX9_lengthOf_3 (by decide) ?_
  refine z_istore_n' (lv' := [(2, .int 0), (1, .int (-2)), (0, .ref x0)]) rfl dX9_lengthOf_4 (by decide) rfl rfl ?_
  refine zA.pick [(0, .ref x0), (1, .int (-2)), (2, .int 0)] [2, 1, 0] rfl ?_
  exact t_X9_lengthOf_5 h0 zF (-2) 0 M hf
noncomputable def f_X11_guest (x0 : Nat) (x1 : Int32) (x2 : Int32) (M : zM) : Option (Int32 × zM) :=
  z_call (f_X11_isRoom x1 M) fun v_1 M_2 => (if v_1 = 0 then some (0, M_2) else z_call (f_X11_isWithin x2 0 9999 M_2) fun v_5 M_6 => (if v_5 = 0 then some (0, M_6) else z_rd (M_6.2.1 x0 1) fun a_9 => z_call (f_X8_takeIn a_9 x1 x2 M_6) fun v_10 M_11 => some (1, M_11)))
set_option maxHeartbeats 2000000 in
set_option maxRecDepth 20000 in
theorem t_X11_guest {l : Launch} {x0 : Nat} {x1 : Int32} {x2 : Int32} {M MO : zM} {v : Int32} (h0 : z_tm SH 10 x0) (hf : f_X11_guest x0 x1 x2 M = some (v, MO)) : zMet l yX11_guest cX11_guest 3 (some .boolean) 3 0 0 [.ref x0, .int x1, .int x2] SH M (zDi SH v MO) := by
  refine zMet.of (by decide +kernel) (Nat.le_of_ble_eq_true rfl) (Or.inr (Or.inr (Or.inl rfl))) ?_
  show zA l yX11_guest cX11_guest 3 (some .boolean) 3 0 0 SH.length (zDi SH v MO) 0 0 0 [(0, .ref x0), (1, .int x1), (2, .int x2)] [] SH M
  unfold f_X11_guest at hf
  refine z_iload_n dX11_guest_0 rfl rfl ?_
  obtain ⟨v_1, M_2, c_3, hf⟩ := z_call_some hf
  refine z_cSi (t_X11_isRoom  c_3) kw_X11_isRoom lk_X11_100 rfl (by decide) rfl (Nat.le_of_ble_eq_true rfl) ⟨Nat.le_refl 0, Nat.le_refl 0⟩ dX11_guest_1 ?_
  refine z_if_eq (tgt := 18) dX11_guest_4 (by decide) (fun q_4 => ?_) (fun q_4 => ?_)
  · have hf := (if_pos q_4).symm.trans hf
    refine z_iconst (v := 0) dX11_guest_18 (by decide) ?_
    obtain ⟨rfl, rfl⟩ := z_end hf
    exact z_iret ⟨rfl, rfl, rfl⟩ (Or.inr ⟨rfl, (Or.inl rfl)⟩) dX11_guest_19
  · have hf := (if_neg q_4).symm.trans hf
    refine z_iload_n dX11_guest_7 rfl rfl ?_
    refine z_iconst (v := 0) dX11_guest_8 (by decide) ?_
    refine z_sipush (v := 9999) dX11_guest_9 (by decide) ?_
    obtain ⟨v_5, M_6, c_7, hf⟩ := z_call_some hf
    refine z_cSi (t_X11_isWithin  c_7) kw_X11_isWithin lk_X11_104 rfl (by decide) rfl (Nat.le_of_ble_eq_true rfl) ⟨Nat.le_refl 0, Nat.le_refl 0⟩ dX11_guest_12 ?_
    refine z_if_ne (tgt := 20) dX11_guest_15 (by decide) (fun q_8 => ?_) (fun q_8 => ?_)
    · have hf := (if_neg q_8).symm.trans hf
      refine z_aload_n dX11_guest_20 rfl rfl ?_
      obtain ⟨a_9, ra_9, hf⟩ := z_rd_some hf
      refine zgR fl_X11_19 h0 (fun _ => rfl) ra_9 dX11_guest_21 (fun ha_9 => ?_)
      refine z_iload_n dX11_guest_24 rfl rfl ?_
      refine z_iload_n dX11_guest_25 rfl rfl ?_
      obtain ⟨v_10, M_11, c_12, hf⟩ := z_call_some hf
      refine z_cVv (t_X8_takeIn ha_9 c_12) kw_X8_takeIn lk_X11_108 ha_9 rfl (by decide) rfl (Nat.le_of_ble_eq_true rfl) ⟨Nat.le_refl 0, Nat.le_refl 0⟩ dX11_guest_26 ?_
      refine z_iconst (v := 1) dX11_guest_29 (by decide) ?_
      obtain ⟨rfl, rfl⟩ := z_end hf
      exact z_iret ⟨rfl, rfl, rfl⟩ (Or.inr ⟨rfl, (Or.inr rfl)⟩) dX11_guest_30
    · have hf := (if_pos q_8).symm.trans hf
      refine z_iconst (v := 0) dX11_guest_18 (by decide) ?_
      obtain ⟨rfl, rfl⟩ := z_end hf
      exact z_iret ⟨rfl, rfl, rfl⟩ (Or.inr ⟨rfl, (Or.inl rfl)⟩) dX11_guest_19
noncomputable def f_X11_grille (x0 : Nat) (x1 : Int32) (x2 : Int32) (M : zM) : Option (Int32 × zM) :=
  z_call (f_X11_isRoom x1 M) fun v_1 M_2 => (if v_1 = 0 then some (0, M_2) else z_rd (M_2.2.1 x0 1) fun a_5 => z_call (f_X8_setGrille a_5 x1 x2 M_2) fun v_6 M_7 => some (1, M_7))
set_option maxHeartbeats 2000000 in
set_option maxRecDepth 20000 in
theorem t_X11_grille {l : Launch} {x0 : Nat} {x1 : Int32} {x2 : Int32} {M MO : zM} {v : Int32} (h0 : z_tm SH 10 x0) (hf : f_X11_grille x0 x1 x2 M = some (v, MO)) : zMet l yX11_grille cX11_grille 3 (some .boolean) 3 0 0 [.ref x0, .int x1, .int x2] SH M (zDi SH v MO) := by
  refine zMet.of (by decide +kernel) (Nat.le_of_ble_eq_true rfl) (Or.inr (Or.inr (Or.inl rfl))) ?_
  show zA l yX11_grille cX11_grille 3 (some .boolean) 3 0 0 SH.length (zDi SH v MO) 0 0 0 [(0, .ref x0), (1, .int x1), (2, .int x2)] [] SH M
  unfold f_X11_grille at hf
  refine z_iload_n dX11_grille_0 rfl rfl ?_
  obtain ⟨v_1, M_2, c_3, hf⟩ := z_call_some hf
  refine z_cSi (t_X11_isRoom  c_3) kw_X11_isRoom lk_X11_100 rfl (by decide) rfl (Nat.le_of_ble_eq_true rfl) ⟨Nat.le_refl 0, Nat.le_refl 0⟩ dX11_grille_1 ?_
  refine z_if_ne (tgt := 9) dX11_grille_4 (by decide) (fun q_4 => ?_) (fun q_4 => ?_)
  · have hf := (if_neg q_4).symm.trans hf
    refine z_aload_n dX11_grille_9 rfl rfl ?_
    obtain ⟨a_5, ra_5, hf⟩ := z_rd_some hf
    refine zgR fl_X11_19 h0 (fun _ => rfl) ra_5 dX11_grille_10 (fun ha_5 => ?_)
    refine z_iload_n dX11_grille_13 rfl rfl ?_
    refine z_iload_n dX11_grille_14 rfl rfl ?_
    obtain ⟨v_6, M_7, c_8, hf⟩ := z_call_some hf
    refine z_cVv (t_X8_setGrille ha_5 c_8) kw_X8_setGrille lk_X11_112 ha_5 rfl (by decide) rfl (Nat.le_of_ble_eq_true rfl) ⟨Nat.le_refl 0, Nat.le_refl 0⟩ dX11_grille_15 ?_
    refine z_iconst (v := 1) dX11_grille_18 (by decide) ?_
    obtain ⟨rfl, rfl⟩ := z_end hf
    exact z_iret ⟨rfl, rfl, rfl⟩ (Or.inr ⟨rfl, (Or.inr rfl)⟩) dX11_grille_19
  · have hf := (if_pos q_4).symm.trans hf
    refine z_iconst (v := 0) dX11_grille_7 (by decide) ?_
    obtain ⟨rfl, rfl⟩ := z_end hf
    exact z_iret ⟨rfl, rfl, rfl⟩ (Or.inr ⟨rfl, (Or.inl rfl)⟩) dX11_grille_8
noncomputable def f_X11_louvre (x0 : Nat) (x1 : Int32) (x2 : Int32) (M : zM) : Option (Int32 × zM) :=
  z_call (f_X11_isRoom x1 M) fun v_1 M_2 => (if v_1 = 0 then some (0, M_2) else z_call (f_X11_isWithin x2 0 2 M_2) fun v_5 M_6 => (if v_5 = 0 then some (0, M_6) else z_rd (M_6.2.1 x0 1) fun a_9 => z_call (f_X8_setLouvre a_9 x1 x2 M_6) fun v_10 M_11 => some (1, M_11)))
set_option maxHeartbeats 2000000 in
set_option maxRecDepth 20000 in
theorem t_X11_louvre {l : Launch} {x0 : Nat} {x1 : Int32} {x2 : Int32} {M MO : zM} {v : Int32} (h0 : z_tm SH 10 x0) (hf : f_X11_louvre x0 x1 x2 M = some (v, MO)) : zMet l yX11_louvre cX11_louvre 3 (some .boolean) 3 0 0 [.ref x0, .int x1, .int x2] SH M (zDi SH v MO) := by
  refine zMet.of (by decide +kernel) (Nat.le_of_ble_eq_true rfl) (Or.inr (Or.inr (Or.inl rfl))) ?_
  show zA l yX11_louvre cX11_louvre 3 (some .boolean) 3 0 0 SH.length (zDi SH v MO) 0 0 0 [(0, .ref x0), (1, .int x1), (2, .int x2)] [] SH M
  unfold f_X11_louvre at hf
  refine z_iload_n dX11_louvre_0 rfl rfl ?_
  obtain ⟨v_1, M_2, c_3, hf⟩ := z_call_some hf
  refine z_cSi (t_X11_isRoom  c_3) kw_X11_isRoom lk_X11_100 rfl (by decide) rfl (Nat.le_of_ble_eq_true rfl) ⟨Nat.le_refl 0, Nat.le_refl 0⟩ dX11_louvre_1 ?_
  refine z_if_eq (tgt := 16) dX11_louvre_4 (by decide) (fun q_4 => ?_) (fun q_4 => ?_)
  · have hf := (if_pos q_4).symm.trans hf
    refine z_iconst (v := 0) dX11_louvre_16 (by decide) ?_
    obtain ⟨rfl, rfl⟩ := z_end hf
    exact z_iret ⟨rfl, rfl, rfl⟩ (Or.inr ⟨rfl, (Or.inl rfl)⟩) dX11_louvre_17
  · have hf := (if_neg q_4).symm.trans hf
    refine z_iload_n dX11_louvre_7 rfl rfl ?_
    refine z_iconst (v := 0) dX11_louvre_8 (by decide) ?_
    refine z_iconst (v := 2) dX11_louvre_9 (by decide) ?_
    obtain ⟨v_5, M_6, c_7, hf⟩ := z_call_some hf
    refine z_cSi (t_X11_isWithin  c_7) kw_X11_isWithin lk_X11_104 rfl (by decide) rfl (Nat.le_of_ble_eq_true rfl) ⟨Nat.le_refl 0, Nat.le_refl 0⟩ dX11_louvre_10 ?_
    refine z_if_ne (tgt := 18) dX11_louvre_13 (by decide) (fun q_8 => ?_) (fun q_8 => ?_)
    · have hf := (if_neg q_8).symm.trans hf
      refine z_aload_n dX11_louvre_18 rfl rfl ?_
      obtain ⟨a_9, ra_9, hf⟩ := z_rd_some hf
      refine zgR fl_X11_19 h0 (fun _ => rfl) ra_9 dX11_louvre_19 (fun ha_9 => ?_)
      refine z_iload_n dX11_louvre_22 rfl rfl ?_
      refine z_iload_n dX11_louvre_23 rfl rfl ?_
      obtain ⟨v_10, M_11, c_12, hf⟩ := z_call_some hf
      refine z_cVv (t_X8_setLouvre ha_9 c_12) kw_X8_setLouvre lk_X11_116 ha_9 rfl (by decide) rfl (Nat.le_of_ble_eq_true rfl) ⟨Nat.le_refl 0, Nat.le_refl 0⟩ dX11_louvre_24 ?_
      refine z_iconst (v := 1) dX11_louvre_27 (by decide) ?_
      obtain ⟨rfl, rfl⟩ := z_end hf
      exact z_iret ⟨rfl, rfl, rfl⟩ (Or.inr ⟨rfl, (Or.inr rfl)⟩) dX11_louvre_28
    · have hf := (if_pos q_8).symm.trans hf
      refine z_iconst (v := 0) dX11_louvre_16 (by decide) ?_
      obtain ⟨rfl, rfl⟩ := z_end hf
      exact z_iret ⟨rfl, rfl, rfl⟩ (Or.inr ⟨rfl, (Or.inl rfl)⟩) dX11_louvre_17
noncomputable def f_X11_feed (x0 : Nat) (x1 : Int32) (x2 : Int32) (x3 : Int32) (x4 : Int32) (x5 : Int32) (M : zM) : Option (Int32 × zM) :=
  z_rd (M.2.1 x0 0) fun a_1 => z_call (f_X10_hasSpace a_1 M) fun v_2 M_3 => (if v_2 = 0 then some ((-1), M_3) else z_rd (M_3.2.1 x0 0) fun a_6 => z_call (f_X10_addWord a_6 x1 M_3) fun v_7 M_8 => z_rd (M_8.2.1 x0 0) fun a_10 => z_call (f_X10_addWord a_10 x2 M_8) fun v_11 M_12 => z_rd (M_12.2.1 x0 0) fun a_14 => z_call (f_X10_addWord a_14 x3 M_12) fun v_15 M_16 => z_rd (M_16.2.1 x0 0) fun a_18 => z_call (f_X10_addWord a_18 x4 M_16) fun v_19 M_20 => z_rd (M_20.2.1 x0 0) fun a_22 => z_call (f_X10_addWord a_22 x5 M_20) fun v_23 M_24 => z_rd (M_24.2.1 x0 0) fun a_26 => some ((M_24.1 a_26 1), M_24))
set_option maxHeartbeats 2000000 in
set_option maxRecDepth 20000 in
theorem t_X11_feed {l : Launch} {x0 : Nat} {x1 : Int32} {x2 : Int32} {x3 : Int32} {x4 : Int32} {x5 : Int32} {M MO : zM} {v : Int32} (h0 : z_tm SH 10 x0) (hf : f_X11_feed x0 x1 x2 x3 x4 x5 M = some (v, MO)) : zMet l yX11_feed cX11_feed 6 (some .int) 2 0 0 [.ref x0, .int x1, .int x2, .int x3, .int x4, .int x5] SH M (zDi SH v MO) := by
  refine zMet.of (by decide +kernel) (Nat.le_of_ble_eq_true rfl) (Or.inr (Or.inl rfl)) ?_
  show zA l yX11_feed cX11_feed 6 (some .int) 2 0 0 SH.length (zDi SH v MO) 0 0 0 [(0, .ref x0), (1, .int x1), (2, .int x2), (3, .int x3), (4, .int x4), (5, .int x5)] [] SH M
  unfold f_X11_feed at hf
  refine z_aload_n dX11_feed_0 rfl rfl ?_
  obtain ⟨a_1, ra_1, hf⟩ := z_rd_some hf
  refine zgR fl_X11_12 h0 (fun _ => rfl) ra_1 dX11_feed_1 (fun ha_1 => ?_)
  obtain ⟨v_2, M_3, c_4, hf⟩ := z_call_some hf
  refine z_cVi (t_X10_hasSpace ha_1 c_4) kw_X10_hasSpace lk_X11_119 ha_1 rfl (by decide) rfl (Nat.le_of_ble_eq_true rfl) ⟨Nat.le_refl 0, Nat.le_refl 0⟩ dX11_feed_4 ?_
  refine z_if_ne (tgt := 12) dX11_feed_7 (by decide) (fun q_5 => ?_) (fun q_5 => ?_)
  · have hf := (if_neg q_5).symm.trans hf
    refine z_aload_n dX11_feed_12 rfl rfl ?_
    obtain ⟨a_6, ra_6, hf⟩ := z_rd_some hf
    refine zgR fl_X11_12 h0 (fun _ => rfl) ra_6 dX11_feed_13 (fun ha_6 => ?_)
    refine z_iload_n dX11_feed_16 rfl rfl ?_
    obtain ⟨v_7, M_8, c_9, hf⟩ := z_call_some hf
    refine z_cVv (t_X10_addWord ha_6 c_9) kw_X10_addWord lk_X11_123 ha_6 rfl (by decide) rfl (Nat.le_of_ble_eq_true rfl) ⟨Nat.le_refl 0, Nat.le_refl 0⟩ dX11_feed_17 ?_
    refine z_aload_n dX11_feed_20 rfl rfl ?_
    obtain ⟨a_10, ra_10, hf⟩ := z_rd_some hf
    refine zgR fl_X11_12 h0 (fun _ => rfl) ra_10 dX11_feed_21 (fun ha_10 => ?_)
    refine z_iload_n dX11_feed_24 rfl rfl ?_
    obtain ⟨v_11, M_12, c_13, hf⟩ := z_call_some hf
    refine z_cVv (t_X10_addWord ha_10 c_13) kw_X10_addWord lk_X11_123 ha_10 rfl (by decide) rfl (Nat.le_of_ble_eq_true rfl) ⟨Nat.le_refl 0, Nat.le_refl 0⟩ dX11_feed_25 ?_
    refine z_aload_n dX11_feed_28 rfl rfl ?_
    obtain ⟨a_14, ra_14, hf⟩ := z_rd_some hf
    refine zgR fl_X11_12 h0 (fun _ => rfl) ra_14 dX11_feed_29 (fun ha_14 => ?_)
    refine z_iload_n dX11_feed_32 rfl rfl ?_
    obtain ⟨v_15, M_16, c_17, hf⟩ := z_call_some hf
    refine z_cVv (t_X10_addWord ha_14 c_17) kw_X10_addWord lk_X11_123 ha_14 rfl (by decide) rfl (Nat.le_of_ble_eq_true rfl) ⟨Nat.le_refl 0, Nat.le_refl 0⟩ dX11_feed_33 ?_
    refine z_aload_n dX11_feed_36 rfl rfl ?_
    obtain ⟨a_18, ra_18, hf⟩ := z_rd_some hf
    refine zgR fl_X11_12 h0 (fun _ => rfl) ra_18 dX11_feed_37 (fun ha_18 => ?_)
    refine z_iload dX11_feed_40 rfl ?_
    obtain ⟨v_19, M_20, c_21, hf⟩ := z_call_some hf
    refine z_cVv (t_X10_addWord ha_18 c_21) kw_X10_addWord lk_X11_123 ha_18 rfl (by decide) rfl (Nat.le_of_ble_eq_true rfl) ⟨Nat.le_refl 0, Nat.le_refl 0⟩ dX11_feed_42 ?_
    refine z_aload_n dX11_feed_45 rfl rfl ?_
    obtain ⟨a_22, ra_22, hf⟩ := z_rd_some hf
    refine zgR fl_X11_12 h0 (fun _ => rfl) ra_22 dX11_feed_46 (fun ha_22 => ?_)
    refine z_iload dX11_feed_49 rfl ?_
    obtain ⟨v_23, M_24, c_25, hf⟩ := z_call_some hf
    refine z_cVv (t_X10_addWord ha_22 c_25) kw_X10_addWord lk_X11_123 ha_22 rfl (by decide) rfl (Nat.le_of_ble_eq_true rfl) ⟨Nat.le_refl 0, Nat.le_refl 0⟩ dX11_feed_51 ?_
    refine z_aload_n dX11_feed_54 rfl rfl ?_
    obtain ⟨a_26, ra_26, hf⟩ := z_rd_some hf
    refine zgR fl_X11_12 h0 (fun _ => rfl) ra_26 dX11_feed_55 (fun ha_26 => ?_)
    refine zgI fl_X11_127 ha_26 (fun _ => rfl) dX11_feed_58 ?_
    obtain ⟨rfl, rfl⟩ := z_end hf
    exact z_iret ⟨rfl, rfl, rfl⟩ (Or.inl rfl) dX11_feed_61
  · have hf := (if_pos q_5).symm.trans hf
    refine z_iconst (v := (-1)) dX11_feed_10 (by decide) ?_
    obtain ⟨rfl, rfl⟩ := z_end hf
    exact z_iret ⟨rfl, rfl, rfl⟩ (Or.inl rfl) dX11_feed_11
noncomputable def f_X11_law (x0 : Nat) (x1 : Int32) (M : zM) : Option (Int32 × zM) :=
  z_call (f_X11_isWithin x1 1 240 M) fun v_1 M_2 => (if v_1 = 0 then some ((-1), M_2) else z_rd (M_2.2.1 x0 0) fun a_5 => z_call (f_X10_has a_5 x1 M_2) fun v_6 M_7 => (if v_6 = 0 then some ((-1), M_7) else z_rd (M_7.2.1 x0 0) fun a_10 => z_call (f_X10_take a_10 x1 M_7) fun v_11 M_12 => z_rd (M_12.2.1 x0 5) fun a_14 => z_rd (M_12.2.1 x0 12) fun a_15 => z_call (f_X5_read a_14 a_15 M_12) fun v_16 M_17 => z_rd (M_17.2.1 x0 0) fun a_19 => z_call (f_X10_isFaulty a_19 M_17) fun v_20 M_21 => (if v_20 = 0 then z_rd (M_21.2.1 x0 11) fun a_24 => z_rd (M_21.2.1 x0 12) fun a_25 => zl (M_21.1, zu M_21.2.1 x0 11 (some a_25), M_21.2.2) fun M_26 => zl (M_26.1, zu M_26.2.1 x0 12 (some a_24), M_26.2.2) fun M_27 => z_rd (M_27.2.1 x0 11) fun a_28 => some ((M_27.1 a_28 7), M_27) else z_rd (M_21.2.1 x0 0) fun a_29 => some ((M_21.1 a_29 4), M_21))))
set_option maxHeartbeats 2000000 in
set_option maxRecDepth 20000 in
theorem t_X11_law {l : Launch} {x0 : Nat} {x1 : Int32} {M MO : zM} {v : Int32} (h0 : z_tm SH 10 x0) (hf : f_X11_law x0 x1 M = some (v, MO)) : zMet l yX11_law cX11_law 3 (some .int) 41 0 0 [.ref x0, .int x1] SH M (zDi SH v MO) := by
  refine zMet.of (by decide +kernel) (Nat.le_of_ble_eq_true rfl) (Or.inr (Or.inl rfl)) ?_
  show zA l yX11_law cX11_law 3 (some .int) 41 0 0 SH.length (zDi SH v MO) 0 0 0 [(0, .ref x0), (1, .int x1)] [] SH M
  unfold f_X11_law at hf
  refine z_iload_n dX11_law_0 rfl rfl ?_
  refine z_iconst (v := 1) dX11_law_1 (by decide) ?_
  refine z_sipush (v := 240) dX11_law_2 (by decide) ?_
  obtain ⟨v_1, M_2, c_3, hf⟩ := z_call_some hf
  refine z_cSi (t_X11_isWithin  c_3) kw_X11_isWithin lk_X11_104 rfl (by decide) rfl (Nat.le_of_ble_eq_true rfl) ⟨Nat.le_refl 0, Nat.le_refl 0⟩ dX11_law_5 ?_
  refine z_if_eq (tgt := 22) dX11_law_8 (by decide) (fun q_4 => ?_) (fun q_4 => ?_)
  · have hf := (if_pos q_4).symm.trans hf
    refine z_iconst (v := (-1)) dX11_law_22 (by decide) ?_
    obtain ⟨rfl, rfl⟩ := z_end hf
    exact z_iret ⟨rfl, rfl, rfl⟩ (Or.inl rfl) dX11_law_23
  · have hf := (if_neg q_4).symm.trans hf
    refine z_aload_n dX11_law_11 rfl rfl ?_
    obtain ⟨a_5, ra_5, hf⟩ := z_rd_some hf
    refine zgR fl_X11_12 h0 (fun _ => rfl) ra_5 dX11_law_12 (fun ha_5 => ?_)
    refine z_iload_n dX11_law_15 rfl rfl ?_
    obtain ⟨v_6, M_7, c_8, hf⟩ := z_call_some hf
    refine z_cVi (t_X10_has ha_5 c_8) kw_X10_has lk_X11_131 ha_5 rfl (by decide) rfl (Nat.le_of_ble_eq_true rfl) ⟨Nat.le_refl 0, Nat.le_refl 0⟩ dX11_law_16 ?_
    refine z_if_ne (tgt := 24) dX11_law_19 (by decide) (fun q_9 => ?_) (fun q_9 => ?_)
    · have hf := (if_neg q_9).symm.trans hf
      refine z_aload_n dX11_law_24 rfl rfl ?_
      obtain ⟨a_10, ra_10, hf⟩ := z_rd_some hf
      refine zgR fl_X11_12 h0 (fun _ => rfl) ra_10 dX11_law_25 (fun ha_10 => ?_)
      refine z_iload_n dX11_law_28 rfl rfl ?_
      obtain ⟨v_11, M_12, c_13, hf⟩ := z_call_some hf
      refine z_cVv (t_X10_take ha_10 c_13) kw_X10_take lk_X11_134 ha_10 rfl (by decide) rfl (Nat.le_of_ble_eq_true rfl) ⟨Nat.le_refl 0, Nat.le_refl 0⟩ dX11_law_29 ?_
      refine z_aload_n dX11_law_32 rfl rfl ?_
      obtain ⟨a_14, ra_14, hf⟩ := z_rd_some hf
      refine zgR fl_X11_55 h0 (fun _ => rfl) ra_14 dX11_law_33 (fun ha_14 => ?_)
      refine z_aload_n dX11_law_36 rfl rfl ?_
      obtain ⟨a_15, ra_15, hf⟩ := z_rd_some hf
      refine zgR fl_X11_38 h0 (fun _ => rfl) ra_15 dX11_law_37 (fun ha_15 => ?_)
      obtain ⟨v_16, M_17, c_18, hf⟩ := z_call_some hf
      refine z_cVv (t_X5_read ha_14 ha_15 c_18) kw_X5_read lk_X11_137 ha_14 rfl (by decide) rfl (Nat.le_of_ble_eq_true rfl) ⟨Nat.le_refl 0, Nat.le_refl 0⟩ dX11_law_40 ?_
      refine z_aload_n dX11_law_43 rfl rfl ?_
      obtain ⟨a_19, ra_19, hf⟩ := z_rd_some hf
      refine zgR fl_X11_12 h0 (fun _ => rfl) ra_19 dX11_law_44 (fun ha_19 => ?_)
      obtain ⟨v_20, M_21, c_22, hf⟩ := z_call_some hf
      refine z_cVi (t_X10_isFaulty ha_19 c_22) kw_X10_isFaulty lk_X11_141 ha_19 rfl (by decide) rfl (Nat.le_of_ble_eq_true rfl) ⟨Nat.le_refl 0, Nat.le_refl 0⟩ dX11_law_47 ?_
      refine z_if_eq (tgt := 61) dX11_law_50 (by decide) (fun q_23 => ?_) (fun q_23 => ?_)
      · have hf := (if_pos q_23).symm.trans hf
        refine z_aload_n dX11_law_61 rfl rfl ?_
        obtain ⟨a_24, ra_24, hf⟩ := z_rd_some hf
        refine zgR fl_X11_34 h0 (fun _ => rfl) ra_24 dX11_law_62 (fun ha_24 => ?_)
        refine z_astore_n' (lv' := [(2, .ref a_24), (0, .ref x0), (1, .int x1)]) rfl dX11_law_65 (by decide) rfl rfl ?_
        refine z_aload_n dX11_law_66 rfl rfl ?_
        refine z_aload_n dX11_law_67 rfl rfl ?_
        obtain ⟨a_25, ra_25, hf⟩ := z_rd_some hf
        refine zgR fl_X11_38 h0 (fun _ => rfl) ra_25 dX11_law_68 (fun ha_25 => ?_)
        obtain ⟨M_26, eM_26, hf⟩ := zl_some hf
        refine zpR fl_X11_34 h0 rfl (Or.inl ⟨_, rfl⟩) ha_25 eM_26 dX11_law_71 ?_
        refine z_aload_n dX11_law_74 rfl rfl ?_
        refine z_aload_n dX11_law_75 rfl rfl ?_
        obtain ⟨M_27, eM_27, hf⟩ := zl_some hf
        refine zpR fl_X11_38 h0 rfl (Or.inl ⟨_, rfl⟩) ha_24 eM_27 dX11_law_76 ?_
        refine z_aload_n dX11_law_79 rfl rfl ?_
        obtain ⟨a_28, ra_28, hf⟩ := z_rd_some hf
        refine zgR fl_X11_34 h0 (fun _ => rfl) ra_28 dX11_law_80 (fun ha_28 => ?_)
        refine zgI fl_X11_147 ha_28 (fun _ => rfl) dX11_law_83 ?_
        obtain ⟨rfl, rfl⟩ := z_end hf
        exact z_iret ⟨rfl, rfl, rfl⟩ (Or.inl rfl) dX11_law_86
      · have hf := (if_neg q_23).symm.trans hf
        refine z_aload_n dX11_law_53 rfl rfl ?_
        obtain ⟨a_29, ra_29, hf⟩ := z_rd_some hf
        refine zgR fl_X11_12 h0 (fun _ => rfl) ra_29 dX11_law_54 (fun ha_29 => ?_)
        refine zgI fl_X11_144 ha_29 (fun _ => rfl) dX11_law_57 ?_
        obtain ⟨rfl, rfl⟩ := z_end hf
        exact z_iret ⟨rfl, rfl, rfl⟩ (Or.inl rfl) dX11_law_60
    · have hf := (if_pos q_9).symm.trans hf
      refine z_iconst (v := (-1)) dX11_law_22 (by decide) ?_
      obtain ⟨rfl, rfl⟩ := z_end hf
      exact z_iret ⟨rfl, rfl, rfl⟩ (Or.inl rfl) dX11_law_23
noncomputable def f_X11_register (x0 : Nat) (x1 : Int32) (M : zM) : Option (Int32 × zM) :=
  z_call (f_X11_isWithin x1 1 120 M) fun v_1 M_2 => (if v_1 = 0 then some ((-1), M_2) else z_rd (M_2.2.1 x0 0) fun a_5 => z_call (f_X10_has a_5 x1 M_2) fun v_6 M_7 => (if v_6 = 0 then some ((-1), M_7) else z_rd (M_7.2.1 x0 0) fun a_10 => z_call (f_X10_take a_10 x1 M_7) fun v_11 M_12 => z_rd (M_12.2.1 x0 3) fun a_14 => z_rd (M_12.2.1 x0 1) fun a_15 => z_call (f_X8_copyFrom a_14 a_15 M_12) fun v_16 M_17 => z_rd (M_17.2.1 x0 6) fun a_19 => z_rd (M_17.2.1 x0 3) fun a_20 => z_call (f_X6_read a_19 a_20 M_17) fun v_21 M_22 => z_rd (M_22.2.1 x0 0) fun a_24 => z_call (f_X10_isFaulty a_24 M_22) fun v_25 M_26 => (if v_25 = 0 then z_rd (M_26.2.1 x0 1) fun a_29 => z_rd (M_26.2.1 x0 3) fun a_30 => z_call (f_X8_copyFrom a_29 a_30 M_26) fun v_31 M_32 => some (v_21, M_32) else z_rd (M_26.2.1 x0 0) fun a_34 => some ((M_26.1 a_34 4), M_26))))
set_option maxHeartbeats 2000000 in
set_option maxRecDepth 20000 in
theorem t_X11_register {l : Launch} {x0 : Nat} {x1 : Int32} {M MO : zM} {v : Int32} (h0 : z_tm SH 10 x0) (hf : f_X11_register x0 x1 M = some (v, MO)) : zMet l yX11_register cX11_register 3 (some .int) 7 0 0 [.ref x0, .int x1] SH M (zDi SH v MO) := by
  refine zMet.of (by decide +kernel) (Nat.le_of_ble_eq_true rfl) (Or.inr (Or.inl rfl)) ?_
  show zA l yX11_register cX11_register 3 (some .int) 7 0 0 SH.length (zDi SH v MO) 0 0 0 [(0, .ref x0), (1, .int x1)] [] SH M
  unfold f_X11_register at hf
  refine z_iload_n dX11_register_0 rfl rfl ?_
  refine z_iconst (v := 1) dX11_register_1 (by decide) ?_
  refine z_bipush (v := 120) dX11_register_2 (by decide) ?_
  obtain ⟨v_1, M_2, c_3, hf⟩ := z_call_some hf
  refine z_cSi (t_X11_isWithin  c_3) kw_X11_isWithin lk_X11_104 rfl (by decide) rfl (Nat.le_of_ble_eq_true rfl) ⟨Nat.le_refl 0, Nat.le_refl 0⟩ dX11_register_4 ?_
  refine z_if_eq (tgt := 21) dX11_register_7 (by decide) (fun q_4 => ?_) (fun q_4 => ?_)
  · have hf := (if_pos q_4).symm.trans hf
    refine z_iconst (v := (-1)) dX11_register_21 (by decide) ?_
    obtain ⟨rfl, rfl⟩ := z_end hf
    exact z_iret ⟨rfl, rfl, rfl⟩ (Or.inl rfl) dX11_register_22
  · have hf := (if_neg q_4).symm.trans hf
    refine z_aload_n dX11_register_10 rfl rfl ?_
    obtain ⟨a_5, ra_5, hf⟩ := z_rd_some hf
    refine zgR fl_X11_12 h0 (fun _ => rfl) ra_5 dX11_register_11 (fun ha_5 => ?_)
    refine z_iload_n dX11_register_14 rfl rfl ?_
    obtain ⟨v_6, M_7, c_8, hf⟩ := z_call_some hf
    refine z_cVi (t_X10_has ha_5 c_8) kw_X10_has lk_X11_131 ha_5 rfl (by decide) rfl (Nat.le_of_ble_eq_true rfl) ⟨Nat.le_refl 0, Nat.le_refl 0⟩ dX11_register_15 ?_
    refine z_if_ne (tgt := 23) dX11_register_18 (by decide) (fun q_9 => ?_) (fun q_9 => ?_)
    · have hf := (if_neg q_9).symm.trans hf
      refine z_aload_n dX11_register_23 rfl rfl ?_
      obtain ⟨a_10, ra_10, hf⟩ := z_rd_some hf
      refine zgR fl_X11_12 h0 (fun _ => rfl) ra_10 dX11_register_24 (fun ha_10 => ?_)
      refine z_iload_n dX11_register_27 rfl rfl ?_
      obtain ⟨v_11, M_12, c_13, hf⟩ := z_call_some hf
      refine z_cVv (t_X10_take ha_10 c_13) kw_X10_take lk_X11_134 ha_10 rfl (by decide) rfl (Nat.le_of_ble_eq_true rfl) ⟨Nat.le_refl 0, Nat.le_refl 0⟩ dX11_register_28 ?_
      refine z_aload_n dX11_register_31 rfl rfl ?_
      obtain ⟨a_14, ra_14, hf⟩ := z_rd_some hf
      refine zgR fl_X11_26 h0 (fun _ => rfl) ra_14 dX11_register_32 (fun ha_14 => ?_)
      refine z_aload_n dX11_register_35 rfl rfl ?_
      obtain ⟨a_15, ra_15, hf⟩ := z_rd_some hf
      refine zgR fl_X11_19 h0 (fun _ => rfl) ra_15 dX11_register_36 (fun ha_15 => ?_)
      obtain ⟨v_16, M_17, c_18, hf⟩ := z_call_some hf
      refine z_cVv (t_X8_copyFrom ha_14 ha_15 c_18) kw_X8_copyFrom lk_X11_150 ha_14 rfl (by decide) rfl (Nat.le_of_ble_eq_true rfl) ⟨Nat.le_refl 0, Nat.le_refl 0⟩ dX11_register_39 ?_
      refine z_aload_n dX11_register_42 rfl rfl ?_
      obtain ⟨a_19, ra_19, hf⟩ := z_rd_some hf
      refine zgR fl_X11_64 h0 (fun _ => rfl) ra_19 dX11_register_43 (fun ha_19 => ?_)
      refine z_aload_n dX11_register_46 rfl rfl ?_
      obtain ⟨a_20, ra_20, hf⟩ := z_rd_some hf
      refine zgR fl_X11_26 h0 (fun _ => rfl) ra_20 dX11_register_47 (fun ha_20 => ?_)
      obtain ⟨v_21, M_22, c_23, hf⟩ := z_call_some hf
      refine z_cVi (t_X6_read ha_19 ha_20 c_23) kw_X6_read lk_X11_153 ha_19 rfl (by decide) rfl (Nat.le_of_ble_eq_true rfl) ⟨Nat.le_refl 0, Nat.le_refl 0⟩ dX11_register_50 ?_
      refine z_istore_n' (lv' := [(2, .int v_21), (0, .ref x0), (1, .int x1)]) rfl dX11_register_53 (by decide) rfl rfl ?_
      refine z_aload_n dX11_register_54 rfl rfl ?_
      obtain ⟨a_24, ra_24, hf⟩ := z_rd_some hf
      refine zgR fl_X11_12 h0 (fun _ => rfl) ra_24 dX11_register_55 (fun ha_24 => ?_)
      obtain ⟨v_25, M_26, c_27, hf⟩ := z_call_some hf
      refine z_cVi (t_X10_isFaulty ha_24 c_27) kw_X10_isFaulty lk_X11_141 ha_24 rfl (by decide) rfl (Nat.le_of_ble_eq_true rfl) ⟨Nat.le_refl 0, Nat.le_refl 0⟩ dX11_register_58 ?_
      refine z_if_eq (tgt := 72) dX11_register_61 (by decide) (fun q_28 => ?_) (fun q_28 => ?_)
      · have hf := (if_pos q_28).symm.trans hf
        refine z_aload_n dX11_register_72 rfl rfl ?_
        obtain ⟨a_29, ra_29, hf⟩ := z_rd_some hf
        refine zgR fl_X11_19 h0 (fun _ => rfl) ra_29 dX11_register_73 (fun ha_29 => ?_)
        refine z_aload_n dX11_register_76 rfl rfl ?_
        obtain ⟨a_30, ra_30, hf⟩ := z_rd_some hf
        refine zgR fl_X11_26 h0 (fun _ => rfl) ra_30 dX11_register_77 (fun ha_30 => ?_)
        obtain ⟨v_31, M_32, c_33, hf⟩ := z_call_some hf
        refine z_cVv (t_X8_copyFrom ha_29 ha_30 c_33) kw_X8_copyFrom lk_X11_150 ha_29 rfl (by decide) rfl (Nat.le_of_ble_eq_true rfl) ⟨Nat.le_refl 0, Nat.le_refl 0⟩ dX11_register_80 ?_
        refine z_iload_n dX11_register_83 rfl rfl ?_
        obtain ⟨rfl, rfl⟩ := z_end hf
        exact z_iret ⟨rfl, rfl, rfl⟩ (Or.inl rfl) dX11_register_84
      · have hf := (if_neg q_28).symm.trans hf
        refine z_aload_n dX11_register_64 rfl rfl ?_
        obtain ⟨a_34, ra_34, hf⟩ := z_rd_some hf
        refine zgR fl_X11_12 h0 (fun _ => rfl) ra_34 dX11_register_65 (fun ha_34 => ?_)
        refine zgI fl_X11_144 ha_34 (fun _ => rfl) dX11_register_68 ?_
        obtain ⟨rfl, rfl⟩ := z_end hf
        exact z_iret ⟨rfl, rfl, rfl⟩ (Or.inl rfl) dX11_register_71
    · have hf := (if_pos q_9).symm.trans hf
      refine z_iconst (v := (-1)) dX11_register_21 (by decide) ?_
      obtain ⟨rfl, rfl⟩ := z_end hf
      exact z_iret ⟨rfl, rfl, rfl⟩ (Or.inl rfl) dX11_register_22
noncomputable def f_X11_hours (x0 : Nat) (x1 : Int32) (M : zM) : Option (Int32 × zM) :=
  z_call (f_X11_isWithin x1 1 240 M) fun v_1 M_2 => (if v_1 = 0 then some ((-1), M_2) else z_rd (M_2.2.1 x0 4) fun a_5 => z_rd (M_2.2.1 x0 1) fun a_6 => z_rd (M_2.2.1 x0 11) fun a_7 => z_call (f_X0_pass a_5 a_6 a_7 x1 M_2) fun v_8 M_9 => z_rd (M_9.2.1 x0 4) fun a_11 => some ((M_9.1 a_11 2), M_9))
set_option maxHeartbeats 2000000 in
set_option maxRecDepth 20000 in
theorem t_X11_hours {l : Launch} {x0 : Nat} {x1 : Int32} {M MO : zM} {v : Int32} (h0 : z_tm SH 10 x0) (hf : f_X11_hours x0 x1 M = some (v, MO)) : zMet l yX11_hours cX11_hours 2 (some .int) 7 0 0 [.ref x0, .int x1] SH M (zDi SH v MO) := by
  refine zMet.of (by decide +kernel) (Nat.le_of_ble_eq_true rfl) (Or.inr (Or.inl rfl)) ?_
  show zA l yX11_hours cX11_hours 2 (some .int) 7 0 0 SH.length (zDi SH v MO) 0 0 0 [(0, .ref x0), (1, .int x1)] [] SH M
  unfold f_X11_hours at hf
  refine z_iload_n dX11_hours_0 rfl rfl ?_
  refine z_iconst (v := 1) dX11_hours_1 (by decide) ?_
  refine z_sipush (v := 240) dX11_hours_2 (by decide) ?_
  obtain ⟨v_1, M_2, c_3, hf⟩ := z_call_some hf
  refine z_cSi (t_X11_isWithin  c_3) kw_X11_isWithin lk_X11_104 rfl (by decide) rfl (Nat.le_of_ble_eq_true rfl) ⟨Nat.le_refl 0, Nat.le_refl 0⟩ dX11_hours_5 ?_
  refine z_if_ne (tgt := 13) dX11_hours_8 (by decide) (fun q_4 => ?_) (fun q_4 => ?_)
  · have hf := (if_neg q_4).symm.trans hf
    refine z_aload_n dX11_hours_13 rfl rfl ?_
    obtain ⟨a_5, ra_5, hf⟩ := z_rd_some hf
    refine zgR fl_X11_46 h0 (fun _ => rfl) ra_5 dX11_hours_14 (fun ha_5 => ?_)
    refine z_aload_n dX11_hours_17 rfl rfl ?_
    obtain ⟨a_6, ra_6, hf⟩ := z_rd_some hf
    refine zgR fl_X11_19 h0 (fun _ => rfl) ra_6 dX11_hours_18 (fun ha_6 => ?_)
    refine z_aload_n dX11_hours_21 rfl rfl ?_
    obtain ⟨a_7, ra_7, hf⟩ := z_rd_some hf
    refine zgR fl_X11_34 h0 (fun _ => rfl) ra_7 dX11_hours_22 (fun ha_7 => ?_)
    refine z_iload_n dX11_hours_25 rfl rfl ?_
    obtain ⟨v_8, M_9, c_10, hf⟩ := z_call_some hf
    refine z_cVv (t_X0_pass ha_5 ha_6 ha_7 c_10) kw_X0_pass lk_X11_156 ha_5 rfl (by decide) rfl (Nat.le_of_ble_eq_true rfl) ⟨Nat.le_refl 0, Nat.le_refl 0⟩ dX11_hours_26 ?_
    refine z_aload_n dX11_hours_29 rfl rfl ?_
    obtain ⟨a_11, ra_11, hf⟩ := z_rd_some hf
    refine zgR fl_X11_46 h0 (fun _ => rfl) ra_11 dX11_hours_30 (fun ha_11 => ?_)
    refine zgI fl_X11_160 ha_11 (fun _ => rfl) dX11_hours_33 ?_
    obtain ⟨rfl, rfl⟩ := z_end hf
    exact z_iret ⟨rfl, rfl, rfl⟩ (Or.inl rfl) dX11_hours_36
  · have hf := (if_pos q_4).symm.trans hf
    refine z_iconst (v := (-1)) dX11_hours_11 (by decide) ?_
    obtain ⟨rfl, rfl⟩ := z_end hf
    exact z_iret ⟨rfl, rfl, rfl⟩ (Or.inl rfl) dX11_hours_12
noncomputable def f_X11_sumOf_10 : Nat → Int32 → Nat → Int32 → Int32 → zM → Option (Int32 × zM)
  | 0, _, _, _, _, _ => none
  | n + 1, x1, x2, x3, x4, M =>
    (if x3 ≤ x4 then some (x1, M) else if z_ix x4 (z_ln SH x2) = true then zl ((M.1 x2 (x4 : Int32).toNatClampNeg)) fun x5_3 => zl ((x1 + x5_3)) fun x1_4 => zl (x4 + 1) fun x4_5 => (f_X11_sumOf_10 n x1_4 x2 x3 x4_5 M) else none)
set_option maxHeartbeats 2000000 in
set_option maxRecDepth 20000 in
theorem t_X11_sumOf_10 {l : Launch} {MO : zM} {v : Int32} : ∀ (n : Nat) (x1 : Int32) (x2 : Nat) (x3 : Int32) (x4 : Int32) (M : zM), z_tm SH 100 x2 → f_X11_sumOf_10  n x1 x2 x3 x4 M = some (v, MO) → zA l yX11_sumOf cX11_sumOf 6 (some .int) 1 0 0 SH.length (zDi SH v MO) 0 0 10 [(1, .int x1), (2, .ref x2), (3, .int x3), (4, .int x4)] [] SH M := by
  intro n
  induction n with
  | zero =>
    intro x1 x2 x3 x4 M h2 hf
    rw [f_X11_sumOf_10] at hf
    cases hf
  | succ n ih =>
    intro x1 x2 x3 x4 M h2 hf
    rw [f_X11_sumOf_10] at hf
    refine z_iload dX11_sumOf_10 rfl ?_
    refine z_iload_n dX11_sumOf_12 rfl rfl ?_
    refine z_icmp_ge (tgt := 33) dX11_sumOf_13 (by decide) (fun q_1 => ?_) (fun q_1 => ?_)
    · have hf := (if_pos q_1).symm.trans hf
      refine z_iload_n dX11_sumOf_33 rfl rfl ?_
      obtain ⟨rfl, rfl⟩ := z_end hf
      exact z_iret ⟨rfl, rfl, rfl⟩ (Or.inl rfl) dX11_sumOf_34
    · have hf := (if_neg q_1).symm.trans hf
      refine z_aload_n dX11_sumOf_16 rfl rfl ?_
      refine z_iload dX11_sumOf_17 rfl ?_
      obtain ⟨g_2, hf⟩ := z_ifs hf
      refine z_iald h2 g_2 rfl dX11_sumOf_19 ?_
      obtain ⟨x5_3, ex5_3, hf⟩ := zl_some hf
      refine z_istore' (lv' := [(5, .int x5_3), (1, .int x1), (2, .ref x2), (3, .int x3), (4, .int x4)]) dX11_sumOf_20 (by decide) ex5_3 rfl ?_
      refine z_iload_n dX11_sumOf_22 rfl rfl ?_
      refine z_iload dX11_sumOf_23 rfl ?_
      refine z_iadd dX11_sumOf_25 ?_
      obtain ⟨x1_4, ex1_4, hf⟩ := zl_some hf
      refine z_istore_n' (lv' := [(1, .int x1_4), (5, .int x5_3), (2, .ref x2), (3, .int x3), (4, .int x4)]) rfl dX11_sumOf_26 (by decide) ex1_4 rfl ?_
      obtain ⟨x4_5, ex4_5, hf⟩ := zl_some hf
      refine z_iinc' (lv' := [(4, .int x4_5), (1, .int x1_4), (5, .int x5_3), (2, .ref x2), (3, .int x3)]) dX11_sumOf_27 rfl (by decide) ex4_5 (by decide) rfl ?_
      refine z_goto (tgt := 10) dX11_sumOf_30 (by decide) ?_
      refine zA.pick [(1, .int x1_4), (2, .ref x2), (3, .int x3), (4, .int x4_5)] [1, 3, 4, 0] rfl ?_
      exact ih x1_4 x2 x3 x4_5 M h2 hf
noncomputable def f_X11_sumOf (x0 : Nat) (M : zM) : Option (Int32 × zM) :=
  zl ((Int32.ofNat (z_ln SH x0))) fun x3_1 => (f_X11_sumOf_10 zF 0 x0 x3_1 0 M)
set_option maxHeartbeats 2000000 in
set_option maxRecDepth 20000 in
theorem t_X11_sumOf {l : Launch} {x0 : Nat} {M MO : zM} {v : Int32} (h0 : z_tm SH 100 x0) (hf : f_X11_sumOf x0 M = some (v, MO)) : zMet l yX11_sumOf cX11_sumOf 6 (some .int) 1 0 0 [.ref x0] SH M (zDi SH v MO) := by
  refine zMet.of (by decide +kernel) (Nat.le_of_ble_eq_true rfl) (Or.inr (Or.inl rfl)) ?_
  show zA l yX11_sumOf cX11_sumOf 6 (some .int) 1 0 0 SH.length (zDi SH v MO) 0 0 0 [(0, .ref x0)] [] SH M
  unfold f_X11_sumOf at hf
  refine z_iconst (v := 0) dX11_sumOf_0 (by decide) ?_
  refine z_istore_n' (lv' := [(1, .int 0), (0, .ref x0)]) rfl dX11_sumOf_1 (by decide) rfl rfl ?_
  refine z_aload_n dX11_sumOf_2 rfl rfl ?_
  refine z_astore_n' (lv' := [(2, .ref x0), (1, .int 0), (0, .ref x0)]) rfl dX11_sumOf_3 (by decide) rfl rfl ?_
  refine z_aload_n dX11_sumOf_4 rfl rfl ?_
  refine z_alen h0 rfl dX11_sumOf_5 ?_
  obtain ⟨x3_1, ex3_1, hf⟩ := zl_some hf
  refine z_istore_n' (lv' := [(3, .int x3_1), (2, .ref x0), (1, .int 0), (0, .ref x0)]) rfl dX11_sumOf_6 (by decide) ex3_1 rfl ?_
  refine z_iconst (v := 0) dX11_sumOf_7 (by decide) ?_
  refine z_istore' (lv' := [(4, .int 0), (3, .int x3_1), (2, .ref x0), (1, .int 0), (0, .ref x0)]) dX11_sumOf_8 (by decide) rfl rfl ?_
  refine zA.pick [(1, .int 0), (2, .ref x0), (3, .int x3_1), (4, .int 0)] [3, 2, 1, 0] rfl ?_
  exact t_X11_sumOf_10 zF 0 x0 x3_1 0 M h0 hf
noncomputable def f_X11_tried_34 (x0 : Nat) (x1 : Int32) (x2 : Int32) (M : zM) : Option (Int32 × zM) :=
  z_rd (M.2.1 x0 3) fun a_1 => z_rd (M.2.1 x0 1) fun a_2 => z_call (f_X8_copyFrom a_1 a_2 M) fun v_3 M_4 => z_rd (M_4.2.1 x0 4) fun a_6 => z_rd (M_4.2.1 x0 3) fun a_7 => z_rd (M_4.2.1 x0 11) fun a_8 => z_call (f_X0_pass a_6 a_7 a_8 x1 M_4) fun v_9 M_10 => (if x2 = 0 then z_rd (M_10.2.1 x0 4) fun a_13 => some ((M_10.1 a_13 2), M_10) else if x2 = 1 then z_rd (M_10.2.1 x0 4) fun a_15 => some ((M_10.1 a_15 3), M_10) else if x2 = 2 then z_rd (M_10.2.1 x0 4) fun a_17 => some ((M_10.1 a_17 4), M_10) else if x2 = 3 then z_rd (M_10.2.1 x0 3) fun a_19 => z_rd (M_10.2.1 a_19 0) fun a_20 => z_call (f_X11_sumOf a_20 M_10) fun v_21 M_22 => some (v_21, M_22) else z_rd (M_10.2.1 x0 3) fun a_24 => z_rd (M_10.2.1 a_24 4) fun a_25 => if z_ix (x2 - 100) (z_ln SH a_25) = true then some ((M_10.1 a_25 ((x2 - 100) : Int32).toNatClampNeg), M_10) else none)
set_option maxHeartbeats 2000000 in
set_option maxRecDepth 20000 in
theorem t_X11_tried_34 {l : Launch} {x0 : Nat} {x1 : Int32} {x2 : Int32} {M MO : zM} {v : Int32} (h0 : z_tm SH 10 x0) (hf : f_X11_tried_34 x0 x1 x2 M = some (v, MO)) : zA l yX11_tried cX11_tried 4 (some .int) 7 0 0 SH.length (zDi SH v MO) 0 0 34 [(0, .ref x0), (1, .int x1), (2, .int x2)] [] SH M := by
  unfold f_X11_tried_34 at hf
  refine z_aload_n dX11_tried_34 rfl rfl ?_
  obtain ⟨a_1, ra_1, hf⟩ := z_rd_some hf
  refine zgR fl_X11_26 h0 (fun _ => rfl) ra_1 dX11_tried_35 (fun ha_1 => ?_)
  refine z_aload_n dX11_tried_38 rfl rfl ?_
  obtain ⟨a_2, ra_2, hf⟩ := z_rd_some hf
  refine zgR fl_X11_19 h0 (fun _ => rfl) ra_2 dX11_tried_39 (fun ha_2 => ?_)
  obtain ⟨v_3, M_4, c_5, hf⟩ := z_call_some hf
  refine z_cVv (t_X8_copyFrom ha_1 ha_2 c_5) kw_X8_copyFrom lk_X11_150 ha_1 rfl (by decide) rfl (Nat.le_of_ble_eq_true rfl) ⟨Nat.le_refl 0, Nat.le_refl 0⟩ dX11_tried_42 ?_
  refine z_aload_n dX11_tried_45 rfl rfl ?_
  obtain ⟨a_6, ra_6, hf⟩ := z_rd_some hf
  refine zgR fl_X11_46 h0 (fun _ => rfl) ra_6 dX11_tried_46 (fun ha_6 => ?_)
  refine z_aload_n dX11_tried_49 rfl rfl ?_
  obtain ⟨a_7, ra_7, hf⟩ := z_rd_some hf
  refine zgR fl_X11_26 h0 (fun _ => rfl) ra_7 dX11_tried_50 (fun ha_7 => ?_)
  refine z_aload_n dX11_tried_53 rfl rfl ?_
  obtain ⟨a_8, ra_8, hf⟩ := z_rd_some hf
  refine zgR fl_X11_34 h0 (fun _ => rfl) ra_8 dX11_tried_54 (fun ha_8 => ?_)
  refine z_iload_n dX11_tried_57 rfl rfl ?_
  obtain ⟨v_9, M_10, c_11, hf⟩ := z_call_some hf
  refine z_cVv (t_X0_pass ha_6 ha_7 ha_8 c_11) kw_X0_pass lk_X11_156 ha_6 rfl (by decide) rfl (Nat.le_of_ble_eq_true rfl) ⟨Nat.le_refl 0, Nat.le_refl 0⟩ dX11_tried_58 ?_
  refine z_iload_n dX11_tried_61 rfl rfl ?_
  by_cases q_12 : x2 = 0
  · have hf := (if_pos q_12).symm.trans hf
    refine z_tabIn (tgt := 92) (off := 30) dX11_tried_62 (by rw [q_12]; decide) (by rw [q_12]; decide) (by rw [q_12]; rfl) (by decide) ?_
    refine z_aload_n dX11_tried_92 rfl rfl ?_
    obtain ⟨a_13, ra_13, hf⟩ := z_rd_some hf
    refine zgR fl_X11_46 h0 (fun _ => rfl) ra_13 dX11_tried_93 (fun ha_13 => ?_)
    refine zgI fl_X11_160 ha_13 (fun _ => rfl) dX11_tried_96 ?_
    obtain ⟨rfl, rfl⟩ := z_end hf
    exact z_iret ⟨rfl, rfl, rfl⟩ (Or.inl rfl) dX11_tried_99
  have hf := (if_neg q_12).symm.trans hf
  by_cases q_14 : x2 = 1
  · have hf := (if_pos q_14).symm.trans hf
    refine z_tabIn (tgt := 100) (off := 38) dX11_tried_62 (by rw [q_14]; decide) (by rw [q_14]; decide) (by rw [q_14]; rfl) (by decide) ?_
    refine z_aload_n dX11_tried_100 rfl rfl ?_
    obtain ⟨a_15, ra_15, hf⟩ := z_rd_some hf
    refine zgR fl_X11_46 h0 (fun _ => rfl) ra_15 dX11_tried_101 (fun ha_15 => ?_)
    refine zgI fl_X11_163 ha_15 (fun _ => rfl) dX11_tried_104 ?_
    obtain ⟨rfl, rfl⟩ := z_end hf
    exact z_iret ⟨rfl, rfl, rfl⟩ (Or.inl rfl) dX11_tried_107
  have hf := (if_neg q_14).symm.trans hf
  by_cases q_16 : x2 = 2
  · have hf := (if_pos q_16).symm.trans hf
    refine z_tabIn (tgt := 108) (off := 46) dX11_tried_62 (by rw [q_16]; decide) (by rw [q_16]; decide) (by rw [q_16]; rfl) (by decide) ?_
    refine z_aload_n dX11_tried_108 rfl rfl ?_
    obtain ⟨a_17, ra_17, hf⟩ := z_rd_some hf
    refine zgR fl_X11_46 h0 (fun _ => rfl) ra_17 dX11_tried_109 (fun ha_17 => ?_)
    refine zgI fl_X11_166 ha_17 (fun _ => rfl) dX11_tried_112 ?_
    obtain ⟨rfl, rfl⟩ := z_end hf
    exact z_iret ⟨rfl, rfl, rfl⟩ (Or.inl rfl) dX11_tried_115
  have hf := (if_neg q_16).symm.trans hf
  by_cases q_18 : x2 = 3
  · have hf := (if_pos q_18).symm.trans hf
    refine z_tabIn (tgt := 116) (off := 54) dX11_tried_62 (by rw [q_18]; decide) (by rw [q_18]; decide) (by rw [q_18]; rfl) (by decide) ?_
    refine z_aload_n dX11_tried_116 rfl rfl ?_
    obtain ⟨a_19, ra_19, hf⟩ := z_rd_some hf
    refine zgR fl_X11_26 h0 (fun _ => rfl) ra_19 dX11_tried_117 (fun ha_19 => ?_)
    obtain ⟨a_20, ra_20, hf⟩ := z_rd_some hf
    refine zgR fl_X11_169 ha_19 (fun _ => rfl) ra_20 dX11_tried_120 (fun ha_20 => ?_)
    obtain ⟨v_21, M_22, c_23, hf⟩ := z_call_some hf
    refine z_cSi (t_X11_sumOf ha_20 c_23) kw_X11_sumOf lk_X11_173 rfl (by decide) rfl (Nat.le_of_ble_eq_true rfl) ⟨Nat.le_refl 0, Nat.le_refl 0⟩ dX11_tried_123 ?_
    obtain ⟨rfl, rfl⟩ := z_end hf
    exact z_iret ⟨rfl, rfl, rfl⟩ (Or.inl rfl) dX11_tried_126
  have hf := (if_neg q_18).symm.trans hf
  refine z_tabD (tgt := 127) dX11_tried_62 [0, 1, 2, 3] (List.forall_mem_cons.mpr ⟨lv_neT q_12 (by decide), (List.forall_mem_cons.mpr ⟨lv_neT q_14 (by decide), (List.forall_mem_cons.mpr ⟨lv_neT q_16 (by decide), (List.forall_mem_cons.mpr ⟨lv_neT q_18 (by decide), (fun _ h => absurd h List.not_mem_nil)⟩)⟩)⟩)⟩) (by decide) (by decide) ?_
  refine z_aload_n dX11_tried_127 rfl rfl ?_
  obtain ⟨a_24, ra_24, hf⟩ := z_rd_some hf
  refine zgR fl_X11_26 h0 (fun _ => rfl) ra_24 dX11_tried_128 (fun ha_24 => ?_)
  obtain ⟨a_25, ra_25, hf⟩ := z_rd_some hf
  refine zgR fl_X11_177 ha_24 (fun _ => rfl) ra_25 dX11_tried_131 (fun ha_25 => ?_)
  refine z_iload_n dX11_tried_134 rfl rfl ?_
  refine z_bipush (v := 100) dX11_tried_135 (by decide) ?_
  refine z_isub dX11_tried_137 ?_
  obtain ⟨g_26, hf⟩ := z_ifs hf
  refine z_iald ha_25 g_26 rfl dX11_tried_138 ?_
  obtain ⟨rfl, rfl⟩ := z_end hf
  exact z_iret ⟨rfl, rfl, rfl⟩ (Or.inl rfl) dX11_tried_139
noncomputable def f_X11_tried (x0 : Nat) (x1 : Int32) (x2 : Int32) (M : zM) : Option (Int32 × zM) :=
  z_call (f_X11_isRoom (x2 - 100) M) fun v_1 M_2 => z_call (f_X11_isWithin x1 1 240 M_2) fun v_4 M_5 => (if v_4 = 0 then some ((-1), M_5) else z_call (f_X11_isWithin x2 0 3 M_5) fun v_8 M_9 => (if v_8 = 0 then (if v_1 = 0 then some ((-1), M_9) else (f_X11_tried_34 x0 x1 x2 M_9)) else (f_X11_tried_34 x0 x1 x2 M_9)))
set_option maxHeartbeats 2000000 in
set_option maxRecDepth 20000 in
theorem t_X11_tried {l : Launch} {x0 : Nat} {x1 : Int32} {x2 : Int32} {M MO : zM} {v : Int32} (h0 : z_tm SH 10 x0) (hf : f_X11_tried x0 x1 x2 M = some (v, MO)) : zMet l yX11_tried cX11_tried 4 (some .int) 7 0 0 [.ref x0, .int x1, .int x2] SH M (zDi SH v MO) := by
  refine zMet.of (by decide +kernel) (Nat.le_of_ble_eq_true rfl) (Or.inr (Or.inl rfl)) ?_
  show zA l yX11_tried cX11_tried 4 (some .int) 7 0 0 SH.length (zDi SH v MO) 0 0 0 [(0, .ref x0), (1, .int x1), (2, .int x2)] [] SH M
  unfold f_X11_tried at hf
  refine z_iload_n dX11_tried_0 rfl rfl ?_
  refine z_bipush (v := 100) dX11_tried_1 (by decide) ?_
  refine z_isub dX11_tried_3 ?_
  obtain ⟨v_1, M_2, c_3, hf⟩ := z_call_some hf
  refine z_cSi (t_X11_isRoom  c_3) kw_X11_isRoom lk_X11_100 rfl (by decide) rfl (Nat.le_of_ble_eq_true rfl) ⟨Nat.le_refl 0, Nat.le_refl 0⟩ dX11_tried_4 ?_
  refine z_istore_n' (lv' := [(3, .int v_1), (0, .ref x0), (1, .int x1), (2, .int x2)]) rfl dX11_tried_7 (by decide) rfl rfl ?_
  refine z_iload_n dX11_tried_8 rfl rfl ?_
  refine z_iconst (v := 1) dX11_tried_9 (by decide) ?_
  refine z_sipush (v := 240) dX11_tried_10 (by decide) ?_
  obtain ⟨v_4, M_5, c_6, hf⟩ := z_call_some hf
  refine z_cSi (t_X11_isWithin  c_6) kw_X11_isWithin lk_X11_104 rfl (by decide) rfl (Nat.le_of_ble_eq_true rfl) ⟨Nat.le_refl 0, Nat.le_refl 0⟩ dX11_tried_13 ?_
  refine z_if_eq (tgt := 32) dX11_tried_16 (by decide) (fun q_7 => ?_) (fun q_7 => ?_)
  · have hf := (if_pos q_7).symm.trans hf
    refine z_iconst (v := (-1)) dX11_tried_32 (by decide) ?_
    obtain ⟨rfl, rfl⟩ := z_end hf
    exact z_iret ⟨rfl, rfl, rfl⟩ (Or.inl rfl) dX11_tried_33
  · have hf := (if_neg q_7).symm.trans hf
    refine z_iload_n dX11_tried_19 rfl rfl ?_
    refine z_iconst (v := 0) dX11_tried_20 (by decide) ?_
    refine z_iconst (v := 3) dX11_tried_21 (by decide) ?_
    obtain ⟨v_8, M_9, c_10, hf⟩ := z_call_some hf
    refine z_cSi (t_X11_isWithin  c_10) kw_X11_isWithin lk_X11_104 rfl (by decide) rfl (Nat.le_of_ble_eq_true rfl) ⟨Nat.le_refl 0, Nat.le_refl 0⟩ dX11_tried_22 ?_
    refine z_if_ne (tgt := 34) dX11_tried_25 (by decide) (fun q_11 => ?_) (fun q_11 => ?_)
    · have hf := (if_neg q_11).symm.trans hf
      refine zA.pick [(0, .ref x0), (1, .int x1), (2, .int x2)] [1, 2, 3] rfl ?_
      exact t_X11_tried_34 h0 hf
    · have hf := (if_pos q_11).symm.trans hf
      refine z_iload_n dX11_tried_28 rfl rfl ?_
      refine z_if_ne (tgt := 34) dX11_tried_29 (by decide) (fun q_12 => ?_) (fun q_12 => ?_)
      · have hf := (if_neg q_12).symm.trans hf
        refine zA.pick [(0, .ref x0), (1, .int x1), (2, .int x2)] [1, 2, 3] rfl ?_
        exact t_X11_tried_34 h0 hf
      · have hf := (if_pos q_12).symm.trans hf
        refine z_iconst (v := (-1)) dX11_tried_32 (by decide) ?_
        obtain ⟨rfl, rfl⟩ := z_end hf
        exact z_iret ⟨rfl, rfl, rfl⟩ (Or.inl rfl) dX11_tried_33
noncomputable def f_X11_roomIs (x0 : Nat) (x1 : Int32) (x2 : Int32) (M : zM) : Option (Int32 × zM) :=
  z_call (f_X11_isRoom x1 M) fun v_1 M_2 => (if v_1 = 0 then some ((-1), M_2) else (if x2 = 0 then z_rd (M_2.2.1 x0 1) fun a_6 => z_call (f_X8_hasGuest a_6 x1 M_2) fun v_7 M_8 => (if v_7 = 0 then some ((-2), M_8) else z_rd (M_8.2.1 x0 1) fun a_11 => z_rd (M_8.2.1 a_11 0) fun a_12 => if z_ix x1 (z_ln SH a_12) = true then some ((M_8.1 a_12 (x1 : Int32).toNatClampNeg), M_8) else none) else if x2 = 1 then z_rd (M_2.2.1 x0 1) fun a_15 => z_call (f_X8_hasGuest a_15 x1 M_2) fun v_16 M_17 => (if v_16 = 0 then some (0, M_17) else some (1, M_17)) else if x2 = 2 then z_rd (M_2.2.1 x0 1) fun a_21 => z_call (f_X8_isOpen a_21 x1 M_2) fun v_22 M_23 => (if v_22 = 0 then some (0, M_23) else some (1, M_23)) else if x2 = 3 then z_rd (M_2.2.1 x0 1) fun a_27 => z_rd (M_2.2.1 a_27 1) fun a_28 => if z_ix x1 (z_ln SH a_28) = true then some ((M_2.1 a_28 (x1 : Int32).toNatClampNeg), M_2) else none else if x2 = 4 then z_rd (M_2.2.1 x0 1) fun a_31 => z_rd (M_2.2.1 a_31 2) fun a_32 => if z_ix x1 (z_ln SH a_32) = true then some ((M_2.1 a_32 (x1 : Int32).toNatClampNeg), M_2) else none else if x2 = 5 then z_rd (M_2.2.1 x0 1) fun a_35 => z_rd (M_2.2.1 a_35 4) fun a_36 => if z_ix x1 (z_ln SH a_36) = true then some ((M_2.1 a_36 (x1 : Int32).toNatClampNeg), M_2) else none else if x2 = 6 then z_rd (M_2.2.1 x0 1) fun a_39 => z_rd (M_2.2.1 x0 1) fun a_40 => z_call (f_X8_mostFeltBy a_40 x1 M_2) fun v_41 M_42 => z_call (f_X8_feelsOf a_39 x1 v_41 M_42) fun v_44 M_45 => some (v_44, M_45) else if x2 = 7 then z_rd (M_2.2.1 x0 1) fun a_48 => z_rd (M_2.2.1 a_48 4) fun a_49 => if z_ix x1 (z_ln SH a_49) = true then (if (M_2.1 a_49 (x1 : Int32).toNatClampNeg) = 0 then some ((-2), M_2) else z_rd (M_2.2.1 x0 1) fun a_52 => z_call (f_X8_mostFeltBy a_52 x1 M_2) fun v_53 M_54 => some (v_53, M_54)) else none else some ((-1), M_2)))
set_option maxHeartbeats 2000000 in
set_option maxRecDepth 20000 in
theorem t_X11_roomIs {l : Launch} {x0 : Nat} {x1 : Int32} {x2 : Int32} {M MO : zM} {v : Int32} (h0 : z_tm SH 10 x0) (hf : f_X11_roomIs x0 x1 x2 M = some (v, MO)) : zMet l yX11_roomIs cX11_roomIs 3 (some .int) 4 0 0 [.ref x0, .int x1, .int x2] SH M (zDi SH v MO) := by
  refine zMet.of (by decide +kernel) (Nat.le_of_ble_eq_true rfl) (Or.inr (Or.inl rfl)) ?_
  show zA l yX11_roomIs cX11_roomIs 3 (some .int) 4 0 0 SH.length (zDi SH v MO) 0 0 0 [(0, .ref x0), (1, .int x1), (2, .int x2)] [] SH M
  unfold f_X11_roomIs at hf
  refine z_iload_n dX11_roomIs_0 rfl rfl ?_
  obtain ⟨v_1, M_2, c_3, hf⟩ := z_call_some hf
  refine z_cSi (t_X11_isRoom  c_3) kw_X11_isRoom lk_X11_100 rfl (by decide) rfl (Nat.le_of_ble_eq_true rfl) ⟨Nat.le_refl 0, Nat.le_refl 0⟩ dX11_roomIs_1 ?_
  refine z_if_ne (tgt := 9) dX11_roomIs_4 (by decide) (fun q_4 => ?_) (fun q_4 => ?_)
  · have hf := (if_neg q_4).symm.trans hf
    refine z_iload_n dX11_roomIs_9 rfl rfl ?_
    by_cases q_5 : x2 = 0
    · have hf := (if_pos q_5).symm.trans hf
      refine z_tabIn (tgt := 56) (off := 46) dX11_roomIs_10 (by rw [q_5]; decide) (by rw [q_5]; decide) (by rw [q_5]; rfl) (by decide) ?_
      refine z_aload_n dX11_roomIs_56 rfl rfl ?_
      obtain ⟨a_6, ra_6, hf⟩ := z_rd_some hf
      refine zgR fl_X11_19 h0 (fun _ => rfl) ra_6 dX11_roomIs_57 (fun ha_6 => ?_)
      refine z_iload_n dX11_roomIs_60 rfl rfl ?_
      obtain ⟨v_7, M_8, c_9, hf⟩ := z_call_some hf
      refine z_cVi (t_X8_hasGuest ha_6 c_9) kw_X8_hasGuest lk_X11_180 ha_6 rfl (by decide) rfl (Nat.le_of_ble_eq_true rfl) ⟨Nat.le_refl 0, Nat.le_refl 0⟩ dX11_roomIs_61 ?_
      refine z_if_eq (tgt := 79) dX11_roomIs_64 (by decide) (fun q_10 => ?_) (fun q_10 => ?_)
      · have hf := (if_pos q_10).symm.trans hf
        refine z_bipush (v := (-2)) dX11_roomIs_79 (by decide) ?_
        obtain ⟨rfl, rfl⟩ := z_end hf
        exact z_iret ⟨rfl, rfl, rfl⟩ (Or.inl rfl) dX11_roomIs_81
      · have hf := (if_neg q_10).symm.trans hf
        refine z_aload_n dX11_roomIs_67 rfl rfl ?_
        obtain ⟨a_11, ra_11, hf⟩ := z_rd_some hf
        refine zgR fl_X11_19 h0 (fun _ => rfl) ra_11 dX11_roomIs_68 (fun ha_11 => ?_)
        obtain ⟨a_12, ra_12, hf⟩ := z_rd_some hf
        refine zgR fl_X11_169 ha_11 (fun _ => rfl) ra_12 dX11_roomIs_71 (fun ha_12 => ?_)
        refine z_iload_n dX11_roomIs_74 rfl rfl ?_
        obtain ⟨g_13, hf⟩ := z_ifs hf
        refine z_iald ha_12 g_13 rfl dX11_roomIs_75 ?_
        refine z_goto (tgt := 81) dX11_roomIs_76 (by decide) ?_
        obtain ⟨rfl, rfl⟩ := z_end hf
        exact z_iret ⟨rfl, rfl, rfl⟩ (Or.inl rfl) dX11_roomIs_81
    have hf := (if_neg q_5).symm.trans hf
    by_cases q_14 : x2 = 1
    · have hf := (if_pos q_14).symm.trans hf
      refine z_tabIn (tgt := 82) (off := 72) dX11_roomIs_10 (by rw [q_14]; decide) (by rw [q_14]; decide) (by rw [q_14]; rfl) (by decide) ?_
      refine z_aload_n dX11_roomIs_82 rfl rfl ?_
      obtain ⟨a_15, ra_15, hf⟩ := z_rd_some hf
      refine zgR fl_X11_19 h0 (fun _ => rfl) ra_15 dX11_roomIs_83 (fun ha_15 => ?_)
      refine z_iload_n dX11_roomIs_86 rfl rfl ?_
      obtain ⟨v_16, M_17, c_18, hf⟩ := z_call_some hf
      refine z_cVi (t_X8_hasGuest ha_15 c_18) kw_X8_hasGuest lk_X11_180 ha_15 rfl (by decide) rfl (Nat.le_of_ble_eq_true rfl) ⟨Nat.le_refl 0, Nat.le_refl 0⟩ dX11_roomIs_87 ?_
      refine z_if_eq (tgt := 97) dX11_roomIs_90 (by decide) (fun q_19 => ?_) (fun q_19 => ?_)
      · have hf := (if_pos q_19).symm.trans hf
        refine z_iconst (v := 0) dX11_roomIs_97 (by decide) ?_
        obtain ⟨rfl, rfl⟩ := z_end hf
        exact z_iret ⟨rfl, rfl, rfl⟩ (Or.inl rfl) dX11_roomIs_98
      · have hf := (if_neg q_19).symm.trans hf
        refine z_iconst (v := 1) dX11_roomIs_93 (by decide) ?_
        refine z_goto (tgt := 98) dX11_roomIs_94 (by decide) ?_
        obtain ⟨rfl, rfl⟩ := z_end hf
        exact z_iret ⟨rfl, rfl, rfl⟩ (Or.inl rfl) dX11_roomIs_98
    have hf := (if_neg q_14).symm.trans hf
    by_cases q_20 : x2 = 2
    · have hf := (if_pos q_20).symm.trans hf
      refine z_tabIn (tgt := 99) (off := 89) dX11_roomIs_10 (by rw [q_20]; decide) (by rw [q_20]; decide) (by rw [q_20]; rfl) (by decide) ?_
      refine z_aload_n dX11_roomIs_99 rfl rfl ?_
      obtain ⟨a_21, ra_21, hf⟩ := z_rd_some hf
      refine zgR fl_X11_19 h0 (fun _ => rfl) ra_21 dX11_roomIs_100 (fun ha_21 => ?_)
      refine z_iload_n dX11_roomIs_103 rfl rfl ?_
      obtain ⟨v_22, M_23, c_24, hf⟩ := z_call_some hf
      refine z_cVi (t_X8_isOpen ha_21 c_24) kw_X8_isOpen lk_X11_183 ha_21 rfl (by decide) rfl (Nat.le_of_ble_eq_true rfl) ⟨Nat.le_refl 0, Nat.le_refl 0⟩ dX11_roomIs_104 ?_
      refine z_if_eq (tgt := 114) dX11_roomIs_107 (by decide) (fun q_25 => ?_) (fun q_25 => ?_)
      · have hf := (if_pos q_25).symm.trans hf
        refine z_iconst (v := 0) dX11_roomIs_114 (by decide) ?_
        obtain ⟨rfl, rfl⟩ := z_end hf
        exact z_iret ⟨rfl, rfl, rfl⟩ (Or.inl rfl) dX11_roomIs_115
      · have hf := (if_neg q_25).symm.trans hf
        refine z_iconst (v := 1) dX11_roomIs_110 (by decide) ?_
        refine z_goto (tgt := 115) dX11_roomIs_111 (by decide) ?_
        obtain ⟨rfl, rfl⟩ := z_end hf
        exact z_iret ⟨rfl, rfl, rfl⟩ (Or.inl rfl) dX11_roomIs_115
    have hf := (if_neg q_20).symm.trans hf
    by_cases q_26 : x2 = 3
    · have hf := (if_pos q_26).symm.trans hf
      refine z_tabIn (tgt := 116) (off := 106) dX11_roomIs_10 (by rw [q_26]; decide) (by rw [q_26]; decide) (by rw [q_26]; rfl) (by decide) ?_
      refine z_aload_n dX11_roomIs_116 rfl rfl ?_
      obtain ⟨a_27, ra_27, hf⟩ := z_rd_some hf
      refine zgR fl_X11_19 h0 (fun _ => rfl) ra_27 dX11_roomIs_117 (fun ha_27 => ?_)
      obtain ⟨a_28, ra_28, hf⟩ := z_rd_some hf
      refine zgR fl_X11_186 ha_27 (fun _ => rfl) ra_28 dX11_roomIs_120 (fun ha_28 => ?_)
      refine z_iload_n dX11_roomIs_123 rfl rfl ?_
      obtain ⟨g_29, hf⟩ := z_ifs hf
      refine z_iald ha_28 g_29 rfl dX11_roomIs_124 ?_
      obtain ⟨rfl, rfl⟩ := z_end hf
      exact z_iret ⟨rfl, rfl, rfl⟩ (Or.inl rfl) dX11_roomIs_125
    have hf := (if_neg q_26).symm.trans hf
    by_cases q_30 : x2 = 4
    · have hf := (if_pos q_30).symm.trans hf
      refine z_tabIn (tgt := 126) (off := 116) dX11_roomIs_10 (by rw [q_30]; decide) (by rw [q_30]; decide) (by rw [q_30]; rfl) (by decide) ?_
      refine z_aload_n dX11_roomIs_126 rfl rfl ?_
      obtain ⟨a_31, ra_31, hf⟩ := z_rd_some hf
      refine zgR fl_X11_19 h0 (fun _ => rfl) ra_31 dX11_roomIs_127 (fun ha_31 => ?_)
      obtain ⟨a_32, ra_32, hf⟩ := z_rd_some hf
      refine zgR fl_X11_189 ha_31 (fun _ => rfl) ra_32 dX11_roomIs_130 (fun ha_32 => ?_)
      refine z_iload_n dX11_roomIs_133 rfl rfl ?_
      obtain ⟨g_33, hf⟩ := z_ifs hf
      refine z_iald ha_32 g_33 rfl dX11_roomIs_134 ?_
      obtain ⟨rfl, rfl⟩ := z_end hf
      exact z_iret ⟨rfl, rfl, rfl⟩ (Or.inl rfl) dX11_roomIs_135
    have hf := (if_neg q_30).symm.trans hf
    by_cases q_34 : x2 = 5
    · have hf := (if_pos q_34).symm.trans hf
      refine z_tabIn (tgt := 136) (off := 126) dX11_roomIs_10 (by rw [q_34]; decide) (by rw [q_34]; decide) (by rw [q_34]; rfl) (by decide) ?_
      refine z_aload_n dX11_roomIs_136 rfl rfl ?_
      obtain ⟨a_35, ra_35, hf⟩ := z_rd_some hf
      refine zgR fl_X11_19 h0 (fun _ => rfl) ra_35 dX11_roomIs_137 (fun ha_35 => ?_)
      obtain ⟨a_36, ra_36, hf⟩ := z_rd_some hf
      refine zgR fl_X11_177 ha_35 (fun _ => rfl) ra_36 dX11_roomIs_140 (fun ha_36 => ?_)
      refine z_iload_n dX11_roomIs_143 rfl rfl ?_
      obtain ⟨g_37, hf⟩ := z_ifs hf
      refine z_iald ha_36 g_37 rfl dX11_roomIs_144 ?_
      obtain ⟨rfl, rfl⟩ := z_end hf
      exact z_iret ⟨rfl, rfl, rfl⟩ (Or.inl rfl) dX11_roomIs_145
    have hf := (if_neg q_34).symm.trans hf
    by_cases q_38 : x2 = 6
    · have hf := (if_pos q_38).symm.trans hf
      refine z_tabIn (tgt := 146) (off := 136) dX11_roomIs_10 (by rw [q_38]; decide) (by rw [q_38]; decide) (by rw [q_38]; rfl) (by decide) ?_
      refine z_aload_n dX11_roomIs_146 rfl rfl ?_
      obtain ⟨a_39, ra_39, hf⟩ := z_rd_some hf
      refine zgR fl_X11_19 h0 (fun _ => rfl) ra_39 dX11_roomIs_147 (fun ha_39 => ?_)
      refine z_iload_n dX11_roomIs_150 rfl rfl ?_
      refine z_aload_n dX11_roomIs_151 rfl rfl ?_
      obtain ⟨a_40, ra_40, hf⟩ := z_rd_some hf
      refine zgR fl_X11_19 h0 (fun _ => rfl) ra_40 dX11_roomIs_152 (fun ha_40 => ?_)
      refine z_iload_n dX11_roomIs_155 rfl rfl ?_
      obtain ⟨v_41, M_42, c_43, hf⟩ := z_call_some hf
      refine z_cVi (t_X8_mostFeltBy ha_40 c_43) kw_X8_mostFeltBy lk_X11_192 ha_40 rfl (by decide) rfl (Nat.le_of_ble_eq_true rfl) ⟨Nat.le_refl 0, Nat.le_refl 0⟩ dX11_roomIs_156 ?_
      obtain ⟨v_44, M_45, c_46, hf⟩ := z_call_some hf
      refine z_cVi (t_X8_feelsOf ha_39 c_46) kw_X8_feelsOf lk_X11_196 ha_39 rfl (by decide) rfl (Nat.le_of_ble_eq_true rfl) ⟨Nat.le_refl 0, Nat.le_refl 0⟩ dX11_roomIs_159 ?_
      obtain ⟨rfl, rfl⟩ := z_end hf
      exact z_iret ⟨rfl, rfl, rfl⟩ (Or.inl rfl) dX11_roomIs_162
    have hf := (if_neg q_38).symm.trans hf
    by_cases q_47 : x2 = 7
    · have hf := (if_pos q_47).symm.trans hf
      refine z_tabIn (tgt := 163) (off := 153) dX11_roomIs_10 (by rw [q_47]; decide) (by rw [q_47]; decide) (by rw [q_47]; rfl) (by decide) ?_
      refine z_aload_n dX11_roomIs_163 rfl rfl ?_
      obtain ⟨a_48, ra_48, hf⟩ := z_rd_some hf
      refine zgR fl_X11_19 h0 (fun _ => rfl) ra_48 dX11_roomIs_164 (fun ha_48 => ?_)
      obtain ⟨a_49, ra_49, hf⟩ := z_rd_some hf
      refine zgR fl_X11_177 ha_48 (fun _ => rfl) ra_49 dX11_roomIs_167 (fun ha_49 => ?_)
      refine z_iload_n dX11_roomIs_170 rfl rfl ?_
      obtain ⟨g_50, hf⟩ := z_ifs hf
      refine z_iald ha_49 g_50 rfl dX11_roomIs_171 ?_
      refine z_if_ne (tgt := 180) dX11_roomIs_172 (by decide) (fun q_51 => ?_) (fun q_51 => ?_)
      · have hf := (if_neg q_51).symm.trans hf
        refine z_aload_n dX11_roomIs_180 rfl rfl ?_
        obtain ⟨a_52, ra_52, hf⟩ := z_rd_some hf
        refine zgR fl_X11_19 h0 (fun _ => rfl) ra_52 dX11_roomIs_181 (fun ha_52 => ?_)
        refine z_iload_n dX11_roomIs_184 rfl rfl ?_
        obtain ⟨v_53, M_54, c_55, hf⟩ := z_call_some hf
        refine z_cVi (t_X8_mostFeltBy ha_52 c_55) kw_X8_mostFeltBy lk_X11_192 ha_52 rfl (by decide) rfl (Nat.le_of_ble_eq_true rfl) ⟨Nat.le_refl 0, Nat.le_refl 0⟩ dX11_roomIs_185 ?_
        obtain ⟨rfl, rfl⟩ := z_end hf
        exact z_iret ⟨rfl, rfl, rfl⟩ (Or.inl rfl) dX11_roomIs_188
      · have hf := (if_pos q_51).symm.trans hf
        refine z_bipush (v := (-2)) dX11_roomIs_175 (by decide) ?_
        refine z_goto (tgt := 188) dX11_roomIs_177 (by decide) ?_
        obtain ⟨rfl, rfl⟩ := z_end hf
        exact z_iret ⟨rfl, rfl, rfl⟩ (Or.inl rfl) dX11_roomIs_188
    have hf := (if_neg q_47).symm.trans hf
    refine z_tabD (tgt := 189) dX11_roomIs_10 [0, 1, 2, 3, 4, 5, 6, 7] (List.forall_mem_cons.mpr ⟨lv_neT q_5 (by decide), (List.forall_mem_cons.mpr ⟨lv_neT q_14 (by decide), (List.forall_mem_cons.mpr ⟨lv_neT q_20 (by decide), (List.forall_mem_cons.mpr ⟨lv_neT q_26 (by decide), (List.forall_mem_cons.mpr ⟨lv_neT q_30 (by decide), (List.forall_mem_cons.mpr ⟨lv_neT q_34 (by decide), (List.forall_mem_cons.mpr ⟨lv_neT q_38 (by decide), (List.forall_mem_cons.mpr ⟨lv_neT q_47 (by decide), (fun _ h => absurd h List.not_mem_nil)⟩)⟩)⟩)⟩)⟩)⟩)⟩)⟩) (by decide) (by decide) ?_
    refine z_iconst (v := (-1)) dX11_roomIs_189 (by decide) ?_
    obtain ⟨rfl, rfl⟩ := z_end hf
    exact z_iret ⟨rfl, rfl, rfl⟩ (Or.inl rfl) dX11_roomIs_190
  · have hf := (if_pos q_4).symm.trans hf
    refine z_iconst (v := (-1)) dX11_roomIs_7 (by decide) ?_
    obtain ⟨rfl, rfl⟩ := z_end hf
    exact z_iret ⟨rfl, rfl, rfl⟩ (Or.inl rfl) dX11_roomIs_8
noncomputable def f_X11_feels (x0 : Nat) (x1 : Int32) (x2 : Int32) (M : zM) : Option (Int32 × zM) :=
  z_call (f_X11_isRoom x1 M) fun v_1 M_2 => (if v_1 = 0 then some ((-1), M_2) else z_call (f_X11_isRoom x2 M_2) fun v_5 M_6 => (if v_5 = 0 then some ((-1), M_6) else z_rd (M_6.2.1 x0 1) fun a_9 => z_call (f_X8_feelsOf a_9 x1 x2 M_6) fun v_10 M_11 => some (v_10, M_11)))
set_option maxHeartbeats 2000000 in
set_option maxRecDepth 20000 in
theorem t_X11_feels {l : Launch} {x0 : Nat} {x1 : Int32} {x2 : Int32} {M MO : zM} {v : Int32} (h0 : z_tm SH 10 x0) (hf : f_X11_feels x0 x1 x2 M = some (v, MO)) : zMet l yX11_feels cX11_feels 3 (some .int) 3 0 0 [.ref x0, .int x1, .int x2] SH M (zDi SH v MO) := by
  refine zMet.of (by decide +kernel) (Nat.le_of_ble_eq_true rfl) (Or.inr (Or.inl rfl)) ?_
  show zA l yX11_feels cX11_feels 3 (some .int) 3 0 0 SH.length (zDi SH v MO) 0 0 0 [(0, .ref x0), (1, .int x1), (2, .int x2)] [] SH M
  unfold f_X11_feels at hf
  refine z_iload_n dX11_feels_0 rfl rfl ?_
  obtain ⟨v_1, M_2, c_3, hf⟩ := z_call_some hf
  refine z_cSi (t_X11_isRoom  c_3) kw_X11_isRoom lk_X11_100 rfl (by decide) rfl (Nat.le_of_ble_eq_true rfl) ⟨Nat.le_refl 0, Nat.le_refl 0⟩ dX11_feels_1 ?_
  refine z_if_eq (tgt := 14) dX11_feels_4 (by decide) (fun q_4 => ?_) (fun q_4 => ?_)
  · have hf := (if_pos q_4).symm.trans hf
    refine z_iconst (v := (-1)) dX11_feels_14 (by decide) ?_
    obtain ⟨rfl, rfl⟩ := z_end hf
    exact z_iret ⟨rfl, rfl, rfl⟩ (Or.inl rfl) dX11_feels_15
  · have hf := (if_neg q_4).symm.trans hf
    refine z_iload_n dX11_feels_7 rfl rfl ?_
    obtain ⟨v_5, M_6, c_7, hf⟩ := z_call_some hf
    refine z_cSi (t_X11_isRoom  c_7) kw_X11_isRoom lk_X11_100 rfl (by decide) rfl (Nat.le_of_ble_eq_true rfl) ⟨Nat.le_refl 0, Nat.le_refl 0⟩ dX11_feels_8 ?_
    refine z_if_ne (tgt := 16) dX11_feels_11 (by decide) (fun q_8 => ?_) (fun q_8 => ?_)
    · have hf := (if_neg q_8).symm.trans hf
      refine z_aload_n dX11_feels_16 rfl rfl ?_
      obtain ⟨a_9, ra_9, hf⟩ := z_rd_some hf
      refine zgR fl_X11_19 h0 (fun _ => rfl) ra_9 dX11_feels_17 (fun ha_9 => ?_)
      refine z_iload_n dX11_feels_20 rfl rfl ?_
      refine z_iload_n dX11_feels_21 rfl rfl ?_
      obtain ⟨v_10, M_11, c_12, hf⟩ := z_call_some hf
      refine z_cVi (t_X8_feelsOf ha_9 c_12) kw_X8_feelsOf lk_X11_196 ha_9 rfl (by decide) rfl (Nat.le_of_ble_eq_true rfl) ⟨Nat.le_refl 0, Nat.le_refl 0⟩ dX11_feels_22 ?_
      obtain ⟨rfl, rfl⟩ := z_end hf
      exact z_iret ⟨rfl, rfl, rfl⟩ (Or.inl rfl) dX11_feels_25
    · have hf := (if_pos q_8).symm.trans hf
      refine z_iconst (v := (-1)) dX11_feels_14 (by decide) ?_
      obtain ⟨rfl, rfl⟩ := z_end hf
      exact z_iret ⟨rfl, rfl, rfl⟩ (Or.inl rfl) dX11_feels_15
noncomputable def f_X11_way_31 (x0 : Nat) (x2 : Int32) : Nat → Int32 → Int32 → zM → Option (Int32 × zM)
  | 0, _, _, _ => none
  | n + 1, x3, x4, M =>
    (if x2 < x4 then some (x3, M) else z_rd (M.2.1 x0 1) fun a_2 => z_call (f_X8_above a_2 x3 M) fun v_3 M_4 => zl (x4 + 1) fun x4_6 => (f_X11_way_31 x0 x2 n v_3 x4_6 M_4))
set_option maxHeartbeats 2000000 in
set_option maxRecDepth 20000 in
theorem t_X11_way_31 {l : Launch} {x0 : Nat} {x2 : Int32} {MO : zM} {v : Int32} (h0 : z_tm SH 10 x0) : ∀ (n : Nat) (x3 : Int32) (x4 : Int32) (M : zM), f_X11_way_31 x0 x2 n x3 x4 M = some (v, MO) → zA l yX11_way cX11_way 5 (some .int) 3 0 0 SH.length (zDi SH v MO) 0 0 31 [(0, .ref x0), (2, .int x2), (3, .int x3), (4, .int x4)] [] SH M := by
  intro n
  induction n with
  | zero =>
    intro x3 x4 M hf
    rw [f_X11_way_31] at hf
    cases hf
  | succ n ih =>
    intro x3 x4 M hf
    rw [f_X11_way_31] at hf
    refine z_iload dX11_way_31 rfl ?_
    refine z_iload_n dX11_way_33 rfl rfl ?_
    refine z_icmp_gt (tgt := 52) dX11_way_34 (by decide) (fun q_1 => ?_) (fun q_1 => ?_)
    · have hf := (if_pos q_1).symm.trans hf
      refine z_iload_n dX11_way_52 rfl rfl ?_
      obtain ⟨rfl, rfl⟩ := z_end hf
      exact z_iret ⟨rfl, rfl, rfl⟩ (Or.inl rfl) dX11_way_53
    · have hf := (if_neg q_1).symm.trans hf
      refine z_aload_n dX11_way_37 rfl rfl ?_
      obtain ⟨a_2, ra_2, hf⟩ := z_rd_some hf
      refine zgR fl_X11_19 h0 (fun _ => rfl) ra_2 dX11_way_38 (fun ha_2 => ?_)
      refine z_iload_n dX11_way_41 rfl rfl ?_
      obtain ⟨v_3, M_4, c_5, hf⟩ := z_call_some hf
      refine z_cVi (t_X8_above ha_2 c_5) kw_X8_above lk_X11_203 ha_2 rfl (by decide) rfl (Nat.le_of_ble_eq_true rfl) ⟨Nat.le_refl 0, Nat.le_refl 0⟩ dX11_way_42 ?_
      refine z_istore_n' (lv' := [(3, .int v_3), (0, .ref x0), (2, .int x2), (4, .int x4)]) rfl dX11_way_45 (by decide) rfl rfl ?_
      obtain ⟨x4_6, ex4_6, hf⟩ := zl_some hf
      refine z_iinc' (lv' := [(4, .int x4_6), (3, .int v_3), (0, .ref x0), (2, .int x2)]) dX11_way_46 rfl (by decide) ex4_6 (by decide) rfl ?_
      refine z_goto (tgt := 31) dX11_way_49 (by decide) ?_
      refine zA.pick [(0, .ref x0), (2, .int x2), (3, .int v_3), (4, .int x4_6)] [2, 3, 1, 0] rfl ?_
      exact ih v_3 x4_6 M_4 hf
noncomputable def f_X11_way (x0 : Nat) (x1 : Int32) (x2 : Int32) (M : zM) : Option (Int32 × zM) :=
  z_call (f_X11_isRoom x1 M) fun v_1 M_2 => (if v_1 = 0 then some ((-1), M_2) else z_call (f_X11_floorOf x1 M_2) fun v_5 M_6 => z_call (f_X11_isWithin x2 0 (5 - v_5) M_6) fun v_8 M_9 => (if v_8 = 0 then some ((-2), M_9) else (f_X11_way_31 x0 x2 zF x1 0 M_9)))
set_option maxHeartbeats 2000000 in
set_option maxRecDepth 20000 in
theorem t_X11_way {l : Launch} {x0 : Nat} {x1 : Int32} {x2 : Int32} {M MO : zM} {v : Int32} (h0 : z_tm SH 10 x0) (hf : f_X11_way x0 x1 x2 M = some (v, MO)) : zMet l yX11_way cX11_way 5 (some .int) 3 0 0 [.ref x0, .int x1, .int x2] SH M (zDi SH v MO) := by
  refine zMet.of (by decide +kernel) (Nat.le_of_ble_eq_true rfl) (Or.inr (Or.inl rfl)) ?_
  show zA l yX11_way cX11_way 5 (some .int) 3 0 0 SH.length (zDi SH v MO) 0 0 0 [(0, .ref x0), (1, .int x1), (2, .int x2)] [] SH M
  unfold f_X11_way at hf
  refine z_iload_n dX11_way_0 rfl rfl ?_
  obtain ⟨v_1, M_2, c_3, hf⟩ := z_call_some hf
  refine z_cSi (t_X11_isRoom  c_3) kw_X11_isRoom lk_X11_100 rfl (by decide) rfl (Nat.le_of_ble_eq_true rfl) ⟨Nat.le_refl 0, Nat.le_refl 0⟩ dX11_way_1 ?_
  refine z_if_ne (tgt := 9) dX11_way_4 (by decide) (fun q_4 => ?_) (fun q_4 => ?_)
  · have hf := (if_neg q_4).symm.trans hf
    refine z_iload_n dX11_way_9 rfl rfl ?_
    refine z_iconst (v := 0) dX11_way_10 (by decide) ?_
    refine z_iconst (v := 5) dX11_way_11 (by decide) ?_
    refine z_iload_n dX11_way_12 rfl rfl ?_
    obtain ⟨v_5, M_6, c_7, hf⟩ := z_call_some hf
    refine z_cSi (t_X11_floorOf  c_7) kw_X11_floorOf lk_X11_200 rfl (by decide) rfl (Nat.le_of_ble_eq_true rfl) ⟨Nat.le_refl 0, Nat.le_refl 0⟩ dX11_way_13 ?_
    refine z_isub dX11_way_16 ?_
    obtain ⟨v_8, M_9, c_10, hf⟩ := z_call_some hf
    refine z_cSi (t_X11_isWithin  c_10) kw_X11_isWithin lk_X11_104 rfl (by decide) rfl (Nat.le_of_ble_eq_true rfl) ⟨Nat.le_refl 0, Nat.le_refl 0⟩ dX11_way_17 ?_
    refine z_if_ne (tgt := 26) dX11_way_20 (by decide) (fun q_11 => ?_) (fun q_11 => ?_)
    · have hf := (if_neg q_11).symm.trans hf
      refine z_iload_n dX11_way_26 rfl rfl ?_
      refine z_istore_n' (lv' := [(3, .int x1), (0, .ref x0), (1, .int x1), (2, .int x2)]) rfl dX11_way_27 (by decide) rfl rfl ?_
      refine z_iconst (v := 0) dX11_way_28 (by decide) ?_
      refine z_istore' (lv' := [(4, .int 0), (3, .int x1), (0, .ref x0), (1, .int x1), (2, .int x2)]) dX11_way_29 (by decide) rfl rfl ?_
      refine zA.pick [(0, .ref x0), (2, .int x2), (3, .int x1), (4, .int 0)] [2, 4, 1, 0] rfl ?_
      exact t_X11_way_31 h0 zF x1 0 M_9 hf
    · have hf := (if_pos q_11).symm.trans hf
      refine z_bipush (v := (-2)) dX11_way_23 (by decide) ?_
      obtain ⟨rfl, rfl⟩ := z_end hf
      exact z_iret ⟨rfl, rfl, rfl⟩ (Or.inl rfl) dX11_way_25
  · have hf := (if_pos q_4).symm.trans hf
    refine z_iconst (v := (-1)) dX11_way_7 (by decide) ?_
    obtain ⟨rfl, rfl⟩ := z_end hf
    exact z_iret ⟨rfl, rfl, rfl⟩ (Or.inl rfl) dX11_way_8
noncomputable def f_X11_reduced (x0 : Int32) (x1 : Int32) (x2 : Int32) (M : zM) : Option (Int32 × zM) :=
  z_call (f_X11_commonDivisor x0 x1 M) fun v_1 M_2 => (if v_1 = 0 then some ((-1), M_2) else (if x2 = 0 then if ¬ ((v_1 : Int32) = 0) then some ((x0 / v_1), M_2) else none else if ¬ ((v_1 : Int32) = 0) then some ((x1 / v_1), M_2) else none))
set_option maxHeartbeats 2000000 in
set_option maxRecDepth 20000 in
theorem t_X11_reduced {l : Launch} {x0 : Int32} {x1 : Int32} {x2 : Int32} {M MO : zM} {v : Int32} (hf : f_X11_reduced x0 x1 x2 M = some (v, MO)) : zMet l yX11_reduced cX11_reduced 4 (some .int) 2 0 0 [.int x0, .int x1, .int x2] SH M (zDi SH v MO) := by
  refine zMet.of (by decide +kernel) (Nat.le_of_ble_eq_true rfl) (Or.inr (Or.inl rfl)) ?_
  show zA l yX11_reduced cX11_reduced 4 (some .int) 2 0 0 SH.length (zDi SH v MO) 0 0 0 [(0, .int x0), (1, .int x1), (2, .int x2)] [] SH M
  unfold f_X11_reduced at hf
  refine z_iload_n dX11_reduced_0 rfl rfl ?_
  refine z_iload_n dX11_reduced_1 rfl rfl ?_
  obtain ⟨v_1, M_2, c_3, hf⟩ := z_call_some hf
  refine z_cSi (t_X11_commonDivisor  c_3) kw_X11_commonDivisor lk_X11_320 rfl (by decide) rfl (Nat.le_of_ble_eq_true rfl) ⟨Nat.le_refl 0, Nat.le_refl 0⟩ dX11_reduced_2 ?_
  refine z_istore_n' (lv' := [(3, .int v_1), (0, .int x0), (1, .int x1), (2, .int x2)]) rfl dX11_reduced_5 (by decide) rfl rfl ?_
  refine z_iload_n dX11_reduced_6 rfl rfl ?_
  refine z_if_ne (tgt := 12) dX11_reduced_7 (by decide) (fun q_4 => ?_) (fun q_4 => ?_)
  · have hf := (if_neg q_4).symm.trans hf
    refine z_iload_n dX11_reduced_12 rfl rfl ?_
    refine z_if_ne (tgt := 20) dX11_reduced_13 (by decide) (fun q_5 => ?_) (fun q_5 => ?_)
    · have hf := (if_neg q_5).symm.trans hf
      refine z_iload_n dX11_reduced_20 rfl rfl ?_
      refine z_iload_n dX11_reduced_21 rfl rfl ?_
      obtain ⟨g_6, hf⟩ := z_ifs hf
      refine z_idiv dX11_reduced_22 g_6 ?_
      obtain ⟨rfl, rfl⟩ := z_end hf
      exact z_iret ⟨rfl, rfl, rfl⟩ (Or.inl rfl) dX11_reduced_23
    · have hf := (if_pos q_5).symm.trans hf
      refine z_iload_n dX11_reduced_16 rfl rfl ?_
      refine z_goto (tgt := 21) dX11_reduced_17 (by decide) ?_
      refine z_iload_n dX11_reduced_21 rfl rfl ?_
      obtain ⟨g_7, hf⟩ := z_ifs hf
      refine z_idiv dX11_reduced_22 g_7 ?_
      obtain ⟨rfl, rfl⟩ := z_end hf
      exact z_iret ⟨rfl, rfl, rfl⟩ (Or.inl rfl) dX11_reduced_23
  · have hf := (if_pos q_4).symm.trans hf
    refine z_iconst (v := (-1)) dX11_reduced_10 (by decide) ?_
    obtain ⟨rfl, rfl⟩ := z_end hf
    exact z_iret ⟨rfl, rfl, rfl⟩ (Or.inl rfl) dX11_reduced_11
noncomputable def f_X11_odds_159 (x4 : Int32) (M : zM) : Option (Int32 × zM) :=
  z_call (f_X11_reduced 0 1 x4 M) fun v_1 M_2 => some (v_1, M_2)
set_option maxHeartbeats 2000000 in
set_option maxRecDepth 20000 in
theorem t_X11_odds_159 {l : Launch} {x4 : Int32} {M MO : zM} {v : Int32} (hf : f_X11_odds_159 x4 M = some (v, MO)) : zA l yX11_odds cX11_odds 11 (some .int) 3 0 0 SH.length (zDi SH v MO) 0 0 159 [(4, .int x4)] [] SH M := by
  unfold f_X11_odds_159 at hf
  refine z_iconst (v := 0) dX11_odds_159 (by decide) ?_
  refine z_iconst (v := 1) dX11_odds_160 (by decide) ?_
  refine z_iload dX11_odds_161 rfl ?_
  obtain ⟨v_1, M_2, c_3, hf⟩ := z_call_some hf
  refine z_cSi (t_X11_reduced  c_3) kw_X11_reduced lk_X11_209 rfl (by decide) rfl (Nat.le_of_ble_eq_true rfl) ⟨Nat.le_refl 0, Nat.le_refl 0⟩ dX11_odds_163 ?_
  obtain ⟨rfl, rfl⟩ := z_end hf
  exact z_iret ⟨rfl, rfl, rfl⟩ (Or.inl rfl) dX11_odds_166
noncomputable def f_X11_odds_153 (x0 : Nat) (x2 : Int32) (x3 : Int32) (x4 : Int32) (k51 : Int32 → Int32 → Int32 → Int32 → zM → Option (Int32 × zM)) (x5 : Int32) (x6 : Int32) (x7 : Int32) (x8 : Int32) (M : zM) : Option (Int32 × zM) :=
  zl (x8 + 1) fun x8_1 => (k51 x5 x6 x7 x8_1 M)
set_option maxHeartbeats 2000000 in
set_option maxRecDepth 20000 in
theorem t_X11_odds_153 {l : Launch} {x0 : Nat} {x2 : Int32} {x3 : Int32} {x4 : Int32} {k51 : Int32 → Int32 → Int32 → Int32 → zM → Option (Int32 × zM)} {x5 : Int32} {x6 : Int32} {x7 : Int32} {x8 : Int32} {M MO : zM} {v : Int32} (h0 : z_tm SH 10 x0) (hk51 : ∀ (x5 : Int32) (x6 : Int32) (x7 : Int32) (x8 : Int32) (M : zM), k51 x5 x6 x7 x8 M = some (v, MO) → zA l yX11_odds cX11_odds 11 (some .int) 3 0 0 SH.length (zDi SH v MO) 0 0 51 [(0, .ref x0), (2, .int x2), (3, .int x3), (4, .int x4), (5, .int x5), (6, .int x6), (7, .int x7), (8, .int x8)] [] SH M) (hf : f_X11_odds_153 x0 x2 x3 x4 k51 x5 x6 x7 x8 M = some (v, MO)) : zA l yX11_odds cX11_odds 11 (some .int) 3 0 0 SH.length (zDi SH v MO) 0 0 153 [(0, .ref x0), (2, .int x2), (3, .int x3), (4, .int x4), (5, .int x5), (6, .int x6), (7, .int x7), (8, .int x8)] [] SH M := by
  unfold f_X11_odds_153 at hf
  obtain ⟨x8_1, ex8_1, hf⟩ := zl_some hf
  refine z_iinc' (lv' := [(8, .int x8_1), (0, .ref x0), (2, .int x2), (3, .int x3), (4, .int x4), (5, .int x5), (6, .int x6), (7, .int x7)]) dX11_odds_153 rfl (by decide) ex8_1 (by decide) rfl ?_
  refine z_goto (tgt := 51) dX11_odds_156 (by decide) ?_
  refine zA.pick [(0, .ref x0), (2, .int x2), (3, .int x3), (4, .int x4), (5, .int x5), (6, .int x6), (7, .int x7), (8, .int x8_1)] [1, 2, 3, 4, 5, 6, 7, 0] rfl ?_
  exact hk51 x5 x6 x7 x8_1 M hf
noncomputable def f_X11_odds_114 (x4 : Int32) (x5 : Int32) (x6 : Int32) (s0 : Int32) (M : zM) : Option (Int32 × zM) :=
  z_call (f_X11_reduced (x5 * s0) (x6 * 10) x4 M) fun v_1 M_2 => some (v_1, M_2)
set_option maxHeartbeats 2000000 in
set_option maxRecDepth 20000 in
theorem t_X11_odds_114 {l : Launch} {x4 : Int32} {x5 : Int32} {x6 : Int32} {s0 : Int32} {M MO : zM} {v : Int32} (hf : f_X11_odds_114 x4 x5 x6 s0 M = some (v, MO)) : zA l yX11_odds cX11_odds 11 (some .int) 3 0 0 SH.length (zDi SH v MO) 0 0 114 [(4, .int x4), (5, .int x5), (6, .int x6)] [.int s0] SH M := by
  unfold f_X11_odds_114 at hf
  refine z_istore' (lv' := [(10, .int s0), (4, .int x4), (5, .int x5), (6, .int x6)]) dX11_odds_114 (by decide) rfl rfl ?_
  refine z_iload dX11_odds_116 rfl ?_
  refine z_iload dX11_odds_118 rfl ?_
  refine z_imul dX11_odds_120 ?_
  refine z_iload dX11_odds_121 rfl ?_
  refine z_bipush (v := 10) dX11_odds_123 (by decide) ?_
  refine z_imul dX11_odds_125 ?_
  refine z_iload dX11_odds_126 rfl ?_
  obtain ⟨v_1, M_2, c_3, hf⟩ := z_call_some hf
  refine z_cSi (t_X11_reduced  c_3) kw_X11_reduced lk_X11_209 rfl (by decide) rfl (Nat.le_of_ble_eq_true rfl) ⟨Nat.le_refl 0, Nat.le_refl 0⟩ dX11_odds_128 ?_
  obtain ⟨rfl, rfl⟩ := z_end hf
  exact z_iret ⟨rfl, rfl, rfl⟩ (Or.inl rfl) dX11_odds_131
noncomputable def f_X11_odds_51 (x0 : Nat) (x2 : Int32) (x3 : Int32) (x4 : Int32) : Nat → Int32 → Int32 → Int32 → Int32 → zM → Option (Int32 × zM)
  | 0, _, _, _, _, _ => none
  | n + 1, x5, x6, x7, x8, M =>
    (if 5 < x8 then (f_X11_odds_159 x4 M) else (if x7 = 24 then (f_X11_odds_159 x4 M) else z_rd (M.2.1 x0 1) fun a_3 => z_call (f_X8_above a_3 x7 M) fun v_4 M_5 => z_rd (M_5.2.1 x0 1) fun a_7 => z_call (f_X8_takesPart a_7 v_4 M_5) fun v_8 M_9 => (if v_4 = x2 then (if v_4 = 24 then (f_X11_odds_114 x4 x5 x6 10 M_9) else (if v_8 = 0 then (f_X11_odds_114 x4 x5 x6 0 M_9) else (f_X11_odds_114 x4 x5 x6 x3 M_9))) else (if v_8 = 0 then (f_X11_odds_153 x0 x2 x3 x4 (f_X11_odds_51 x0 x2 x3 x4 n) x5 x6 v_4 x8 M_9) else zl ((x5 * (10 - x3))) fun x5_13 => zl ((x6 * 10)) fun x6_14 => (f_X11_odds_153 x0 x2 x3 x4 (f_X11_odds_51 x0 x2 x3 x4 n) x5_13 x6_14 v_4 x8 M_9)))))
set_option maxHeartbeats 2000000 in
set_option maxRecDepth 20000 in
theorem t_X11_odds_51 {l : Launch} {x0 : Nat} {x2 : Int32} {x3 : Int32} {x4 : Int32} {MO : zM} {v : Int32} (h0 : z_tm SH 10 x0) : ∀ (n : Nat) (x5 : Int32) (x6 : Int32) (x7 : Int32) (x8 : Int32) (M : zM), f_X11_odds_51 x0 x2 x3 x4 n x5 x6 x7 x8 M = some (v, MO) → zA l yX11_odds cX11_odds 11 (some .int) 3 0 0 SH.length (zDi SH v MO) 0 0 51 [(0, .ref x0), (2, .int x2), (3, .int x3), (4, .int x4), (5, .int x5), (6, .int x6), (7, .int x7), (8, .int x8)] [] SH M := by
  intro n
  induction n with
  | zero =>
    intro x5 x6 x7 x8 M hf
    rw [f_X11_odds_51] at hf
    cases hf
  | succ n ih =>
    intro x5 x6 x7 x8 M hf
    rw [f_X11_odds_51] at hf
    refine z_iload dX11_odds_51 rfl ?_
    refine z_iconst (v := 5) dX11_odds_53 (by decide) ?_
    refine z_icmp_gt (tgt := 159) dX11_odds_54 (by decide) (fun q_1 => ?_) (fun q_1 => ?_)
    · have hf := (if_pos q_1).symm.trans hf
      refine zA.pick [(4, .int x4)] [3] rfl ?_
      exact t_X11_odds_159  hf
    · have hf := (if_neg q_1).symm.trans hf
      refine z_iload dX11_odds_57 rfl ?_
      refine z_bipush (v := 24) dX11_odds_59 (by decide) ?_
      refine z_icmp_eq (tgt := 159) dX11_odds_61 (by decide) (fun q_2 => ?_) (fun q_2 => ?_)
      · have hf := (if_pos q_2).symm.trans hf
        refine zA.pick [(4, .int x4)] [3] rfl ?_
        exact t_X11_odds_159  hf
      · have hf := (if_neg q_2).symm.trans hf
        refine z_aload_n dX11_odds_64 rfl rfl ?_
        obtain ⟨a_3, ra_3, hf⟩ := z_rd_some hf
        refine zgR fl_X11_19 h0 (fun _ => rfl) ra_3 dX11_odds_65 (fun ha_3 => ?_)
        refine z_iload dX11_odds_68 rfl ?_
        obtain ⟨v_4, M_5, c_6, hf⟩ := z_call_some hf
        refine z_cVi (t_X8_above ha_3 c_6) kw_X8_above lk_X11_203 ha_3 rfl (by decide) rfl (Nat.le_of_ble_eq_true rfl) ⟨Nat.le_refl 0, Nat.le_refl 0⟩ dX11_odds_70 ?_
        refine z_istore' (lv' := [(7, .int v_4), (0, .ref x0), (2, .int x2), (3, .int x3), (4, .int x4), (5, .int x5), (6, .int x6), (8, .int x8)]) dX11_odds_73 (by decide) rfl rfl ?_
        refine z_aload_n dX11_odds_75 rfl rfl ?_
        obtain ⟨a_7, ra_7, hf⟩ := z_rd_some hf
        refine zgR fl_X11_19 h0 (fun _ => rfl) ra_7 dX11_odds_76 (fun ha_7 => ?_)
        refine z_iload dX11_odds_79 rfl ?_
        obtain ⟨v_8, M_9, c_10, hf⟩ := z_call_some hf
        refine z_cVi (t_X8_takesPart ha_7 c_10) kw_X8_takesPart lk_X11_206 ha_7 rfl (by decide) rfl (Nat.le_of_ble_eq_true rfl) ⟨Nat.le_refl 0, Nat.le_refl 0⟩ dX11_odds_81 ?_
        refine z_istore' (lv' := [(9, .int v_8), (7, .int v_4), (0, .ref x0), (2, .int x2), (3, .int x3), (4, .int x4), (5, .int x5), (6, .int x6), (8, .int x8)]) dX11_odds_84 (by decide) rfl rfl ?_
        refine z_iload dX11_odds_86 rfl ?_
        refine z_iload_n dX11_odds_88 rfl rfl ?_
        refine z_icmp_ne (tgt := 132) dX11_odds_89 (by decide) (fun q_11 => ?_) (fun q_11 => ?_)
        · have hf := (if_neg q_11).symm.trans hf
          refine z_iload dX11_odds_132 rfl ?_
          refine z_if_eq (tgt := 153) dX11_odds_134 (by decide) (fun q_12 => ?_) (fun q_12 => ?_)
          · have hf := (if_pos q_12).symm.trans hf
            refine zA.pick [(0, .ref x0), (2, .int x2), (3, .int x3), (4, .int x4), (5, .int x5), (6, .int x6), (7, .int v_4), (8, .int x8)] [2, 3, 4, 5, 6, 7, 1, 8] rfl ?_
            exact t_X11_odds_153 h0 ih hf
          · have hf := (if_neg q_12).symm.trans hf
            refine z_iload dX11_odds_137 rfl ?_
            refine z_bipush (v := 10) dX11_odds_139 (by decide) ?_
            refine z_iload_n dX11_odds_141 rfl rfl ?_
            refine z_isub dX11_odds_142 ?_
            refine z_imul dX11_odds_143 ?_
            obtain ⟨x5_13, ex5_13, hf⟩ := zl_some hf
            refine z_istore' (lv' := [(5, .int x5_13), (9, .int v_8), (7, .int v_4), (0, .ref x0), (2, .int x2), (3, .int x3), (4, .int x4), (6, .int x6), (8, .int x8)]) dX11_odds_144 (by decide) ex5_13 rfl ?_
            refine z_iload dX11_odds_146 rfl ?_
            refine z_bipush (v := 10) dX11_odds_148 (by decide) ?_
            refine z_imul dX11_odds_150 ?_
            obtain ⟨x6_14, ex6_14, hf⟩ := zl_some hf
            refine z_istore' (lv' := [(6, .int x6_14), (5, .int x5_13), (9, .int v_8), (7, .int v_4), (0, .ref x0), (2, .int x2), (3, .int x3), (4, .int x4), (8, .int x8)]) dX11_odds_151 (by decide) ex6_14 rfl ?_
            refine zA.pick [(0, .ref x0), (2, .int x2), (3, .int x3), (4, .int x4), (5, .int x5_13), (6, .int x6_14), (7, .int v_4), (8, .int x8)] [4, 5, 6, 7, 1, 0, 3, 8] rfl ?_
            exact t_X11_odds_153 h0 ih hf
        · have hf := (if_pos q_11).symm.trans hf
          refine z_iload dX11_odds_92 rfl ?_
          refine z_bipush (v := 24) dX11_odds_94 (by decide) ?_
          refine z_icmp_ne (tgt := 104) dX11_odds_96 (by decide) (fun q_15 => ?_) (fun q_15 => ?_)
          · have hf := (if_neg q_15).symm.trans hf
            refine z_iload dX11_odds_104 rfl ?_
            refine z_if_eq (tgt := 113) dX11_odds_106 (by decide) (fun q_16 => ?_) (fun q_16 => ?_)
            · have hf := (if_pos q_16).symm.trans hf
              refine z_iconst (v := 0) dX11_odds_113 (by decide) ?_
              refine zA.pick [(4, .int x4), (5, .int x5), (6, .int x6)] [5, 6, 7] rfl ?_
              exact t_X11_odds_114  hf
            · have hf := (if_neg q_16).symm.trans hf
              refine z_iload_n dX11_odds_109 rfl rfl ?_
              refine z_goto (tgt := 114) dX11_odds_110 (by decide) ?_
              refine zA.pick [(4, .int x4), (5, .int x5), (6, .int x6)] [5, 6, 7] rfl ?_
              exact t_X11_odds_114  hf
          · have hf := (if_pos q_15).symm.trans hf
            refine z_bipush (v := 10) dX11_odds_99 (by decide) ?_
            refine z_goto (tgt := 114) dX11_odds_101 (by decide) ?_
            refine zA.pick [(4, .int x4), (5, .int x5), (6, .int x6)] [5, 6, 7] rfl ?_
            exact t_X11_odds_114  hf
noncomputable def f_X11_odds (x0 : Nat) (x1 : Int32) (x2 : Int32) (x3 : Int32) (x4 : Int32) (M : zM) : Option (Int32 × zM) :=
  z_call (f_X11_isRoom x1 M) fun v_1 M_2 => (if v_1 = 0 then some ((-1), M_2) else z_call (f_X11_isWithin x2 0 24 M_2) fun v_5 M_6 => (if v_5 = 0 then some ((-1), M_6) else z_call (f_X11_isWithin x3 0 10 M_6) fun v_9 M_10 => (if v_9 = 0 then some ((-1), M_10) else z_call (f_X11_isWithin x4 0 1 M_10) fun v_13 M_14 => (if v_13 = 0 then some ((-1), M_14) else (f_X11_odds_51 x0 x2 x3 x4 zF 1 1 x1 0 M_14)))))
set_option maxHeartbeats 2000000 in
set_option maxRecDepth 20000 in
theorem t_X11_odds {l : Launch} {x0 : Nat} {x1 : Int32} {x2 : Int32} {x3 : Int32} {x4 : Int32} {M MO : zM} {v : Int32} (h0 : z_tm SH 10 x0) (hf : f_X11_odds x0 x1 x2 x3 x4 M = some (v, MO)) : zMet l yX11_odds cX11_odds 11 (some .int) 3 0 0 [.ref x0, .int x1, .int x2, .int x3, .int x4] SH M (zDi SH v MO) := by
  refine zMet.of (by decide +kernel) (Nat.le_of_ble_eq_true rfl) (Or.inr (Or.inl rfl)) ?_
  show zA l yX11_odds cX11_odds 11 (some .int) 3 0 0 SH.length (zDi SH v MO) 0 0 0 [(0, .ref x0), (1, .int x1), (2, .int x2), (3, .int x3), (4, .int x4)] [] SH M
  unfold f_X11_odds at hf
  refine z_iload_n dX11_odds_0 rfl rfl ?_
  obtain ⟨v_1, M_2, c_3, hf⟩ := z_call_some hf
  refine z_cSi (t_X11_isRoom  c_3) kw_X11_isRoom lk_X11_100 rfl (by decide) rfl (Nat.le_of_ble_eq_true rfl) ⟨Nat.le_refl 0, Nat.le_refl 0⟩ dX11_odds_1 ?_
  refine z_if_eq (tgt := 37) dX11_odds_4 (by decide) (fun q_4 => ?_) (fun q_4 => ?_)
  · have hf := (if_pos q_4).symm.trans hf
    refine z_iconst (v := (-1)) dX11_odds_37 (by decide) ?_
    obtain ⟨rfl, rfl⟩ := z_end hf
    exact z_iret ⟨rfl, rfl, rfl⟩ (Or.inl rfl) dX11_odds_38
  · have hf := (if_neg q_4).symm.trans hf
    refine z_iload_n dX11_odds_7 rfl rfl ?_
    refine z_iconst (v := 0) dX11_odds_8 (by decide) ?_
    refine z_bipush (v := 24) dX11_odds_9 (by decide) ?_
    obtain ⟨v_5, M_6, c_7, hf⟩ := z_call_some hf
    refine z_cSi (t_X11_isWithin  c_7) kw_X11_isWithin lk_X11_104 rfl (by decide) rfl (Nat.le_of_ble_eq_true rfl) ⟨Nat.le_refl 0, Nat.le_refl 0⟩ dX11_odds_11 ?_
    refine z_if_eq (tgt := 37) dX11_odds_14 (by decide) (fun q_8 => ?_) (fun q_8 => ?_)
    · have hf := (if_pos q_8).symm.trans hf
      refine z_iconst (v := (-1)) dX11_odds_37 (by decide) ?_
      obtain ⟨rfl, rfl⟩ := z_end hf
      exact z_iret ⟨rfl, rfl, rfl⟩ (Or.inl rfl) dX11_odds_38
    · have hf := (if_neg q_8).symm.trans hf
      refine z_iload_n dX11_odds_17 rfl rfl ?_
      refine z_iconst (v := 0) dX11_odds_18 (by decide) ?_
      refine z_bipush (v := 10) dX11_odds_19 (by decide) ?_
      obtain ⟨v_9, M_10, c_11, hf⟩ := z_call_some hf
      refine z_cSi (t_X11_isWithin  c_11) kw_X11_isWithin lk_X11_104 rfl (by decide) rfl (Nat.le_of_ble_eq_true rfl) ⟨Nat.le_refl 0, Nat.le_refl 0⟩ dX11_odds_21 ?_
      refine z_if_eq (tgt := 37) dX11_odds_24 (by decide) (fun q_12 => ?_) (fun q_12 => ?_)
      · have hf := (if_pos q_12).symm.trans hf
        refine z_iconst (v := (-1)) dX11_odds_37 (by decide) ?_
        obtain ⟨rfl, rfl⟩ := z_end hf
        exact z_iret ⟨rfl, rfl, rfl⟩ (Or.inl rfl) dX11_odds_38
      · have hf := (if_neg q_12).symm.trans hf
        refine z_iload dX11_odds_27 rfl ?_
        refine z_iconst (v := 0) dX11_odds_29 (by decide) ?_
        refine z_iconst (v := 1) dX11_odds_30 (by decide) ?_
        obtain ⟨v_13, M_14, c_15, hf⟩ := z_call_some hf
        refine z_cSi (t_X11_isWithin  c_15) kw_X11_isWithin lk_X11_104 rfl (by decide) rfl (Nat.le_of_ble_eq_true rfl) ⟨Nat.le_refl 0, Nat.le_refl 0⟩ dX11_odds_31 ?_
        refine z_if_ne (tgt := 39) dX11_odds_34 (by decide) (fun q_16 => ?_) (fun q_16 => ?_)
        · have hf := (if_neg q_16).symm.trans hf
          refine z_iconst (v := 1) dX11_odds_39 (by decide) ?_
          refine z_istore' (lv' := [(5, .int 1), (0, .ref x0), (1, .int x1), (2, .int x2), (3, .int x3), (4, .int x4)]) dX11_odds_40 (by decide) rfl rfl ?_
          refine z_iconst (v := 1) dX11_odds_42 (by decide) ?_
          refine z_istore' (lv' := [(6, .int 1), (5, .int 1), (0, .ref x0), (1, .int x1), (2, .int x2), (3, .int x3), (4, .int x4)]) dX11_odds_43 (by decide) rfl rfl ?_
          refine z_iload_n dX11_odds_45 rfl rfl ?_
          refine z_istore' (lv' := [(7, .int x1), (6, .int 1), (5, .int 1), (0, .ref x0), (1, .int x1), (2, .int x2), (3, .int x3), (4, .int x4)]) dX11_odds_46 (by decide) rfl rfl ?_
          refine z_iconst (v := 0) dX11_odds_48 (by decide) ?_
          refine z_istore' (lv' := [(8, .int 0), (7, .int x1), (6, .int 1), (5, .int 1), (0, .ref x0), (1, .int x1), (2, .int x2), (3, .int x3), (4, .int x4)]) dX11_odds_49 (by decide) rfl rfl ?_
          refine zA.pick [(0, .ref x0), (2, .int x2), (3, .int x3), (4, .int x4), (5, .int 1), (6, .int 1), (7, .int x1), (8, .int 0)] [4, 6, 7, 8, 3, 2, 1, 0] rfl ?_
          exact t_X11_odds_51 h0 zF 1 1 x1 0 M_14 hf
        · have hf := (if_pos q_16).symm.trans hf
          refine z_iconst (v := (-1)) dX11_odds_37 (by decide) ?_
          obtain ⟨rfl, rfl⟩ := z_end hf
          exact z_iret ⟨rfl, rfl, rfl⟩ (Or.inl rfl) dX11_odds_38
noncomputable def f_X11_fromWhere_46 (x0 : Nat) (x1 : Int32) (k13 : Int32 → Int32 → zM → Option (Int32 × zM)) (x2 : Int32) (x3 : Int32) (M : zM) : Option (Int32 × zM) :=
  zl (x3 + 1) fun x3_1 => (k13 x2 x3_1 M)
set_option maxHeartbeats 2000000 in
set_option maxRecDepth 20000 in
theorem t_X11_fromWhere_46 {l : Launch} {x0 : Nat} {x1 : Int32} {k13 : Int32 → Int32 → zM → Option (Int32 × zM)} {x2 : Int32} {x3 : Int32} {M MO : zM} {v : Int32} (h0 : z_tm SH 10 x0) (hk13 : ∀ (x2 : Int32) (x3 : Int32) (M : zM), k13 x2 x3 M = some (v, MO) → zA l yX11_fromWhere cX11_fromWhere 4 (some .int) 4 0 0 SH.length (zDi SH v MO) 0 0 13 [(0, .ref x0), (1, .int x1), (2, .int x2), (3, .int x3)] [] SH M) (hf : f_X11_fromWhere_46 x0 x1 k13 x2 x3 M = some (v, MO)) : zA l yX11_fromWhere cX11_fromWhere 4 (some .int) 4 0 0 SH.length (zDi SH v MO) 0 0 46 [(0, .ref x0), (1, .int x1), (2, .int x2), (3, .int x3)] [] SH M := by
  unfold f_X11_fromWhere_46 at hf
  obtain ⟨x3_1, ex3_1, hf⟩ := zl_some hf
  refine z_iinc' (lv' := [(3, .int x3_1), (0, .ref x0), (1, .int x1), (2, .int x2)]) dX11_fromWhere_46 rfl (by decide) ex3_1 (by decide) rfl ?_
  refine z_goto (tgt := 13) dX11_fromWhere_49 (by decide) ?_
  refine zA.pick [(0, .ref x0), (1, .int x1), (2, .int x2), (3, .int x3_1)] [1, 2, 3, 0] rfl ?_
  exact hk13 x2 x3_1 M hf
noncomputable def f_X11_fromWhere_13 (x0 : Nat) (x1 : Int32) : Nat → Int32 → Int32 → zM → Option (Int32 × zM)
  | 0, _, _, _ => none
  | n + 1, x2, x3, M =>
    (if 24 ≤ x3 then some (x2, M) else (if x3 = x1 then (f_X11_fromWhere_46 x0 x1 (f_X11_fromWhere_13 x0 x1 n) x2 x3 M) else z_rd (M.2.1 x0 1) fun a_3 => z_call (f_X11_floorOf x1 M) fun v_4 M_5 => z_call (f_X8_riseTo a_3 x3 v_4 M_5) fun v_7 M_8 => (if v_7 = x1 then zl ((x2 ||| ((1 : Int32) <<< (x3 &&& 31)))) fun x2_11 => (f_X11_fromWhere_46 x0 x1 (f_X11_fromWhere_13 x0 x1 n) x2_11 x3 M_8) else (f_X11_fromWhere_46 x0 x1 (f_X11_fromWhere_13 x0 x1 n) x2 x3 M_8))))
set_option maxHeartbeats 2000000 in
set_option maxRecDepth 20000 in
theorem t_X11_fromWhere_13 {l : Launch} {x0 : Nat} {x1 : Int32} {MO : zM} {v : Int32} (h0 : z_tm SH 10 x0) : ∀ (n : Nat) (x2 : Int32) (x3 : Int32) (M : zM), f_X11_fromWhere_13 x0 x1 n x2 x3 M = some (v, MO) → zA l yX11_fromWhere cX11_fromWhere 4 (some .int) 4 0 0 SH.length (zDi SH v MO) 0 0 13 [(0, .ref x0), (1, .int x1), (2, .int x2), (3, .int x3)] [] SH M := by
  intro n
  induction n with
  | zero =>
    intro x2 x3 M hf
    rw [f_X11_fromWhere_13] at hf
    cases hf
  | succ n ih =>
    intro x2 x3 M hf
    rw [f_X11_fromWhere_13] at hf
    refine z_iload_n dX11_fromWhere_13 rfl rfl ?_
    refine z_bipush (v := 24) dX11_fromWhere_14 (by decide) ?_
    refine z_icmp_ge (tgt := 52) dX11_fromWhere_16 (by decide) (fun q_1 => ?_) (fun q_1 => ?_)
    · have hf := (if_pos q_1).symm.trans hf
      refine z_iload_n dX11_fromWhere_52 rfl rfl ?_
      obtain ⟨rfl, rfl⟩ := z_end hf
      exact z_iret ⟨rfl, rfl, rfl⟩ (Or.inl rfl) dX11_fromWhere_53
    · have hf := (if_neg q_1).symm.trans hf
      refine z_iload_n dX11_fromWhere_19 rfl rfl ?_
      refine z_iload_n dX11_fromWhere_20 rfl rfl ?_
      refine z_icmp_eq (tgt := 46) dX11_fromWhere_21 (by decide) (fun q_2 => ?_) (fun q_2 => ?_)
      · have hf := (if_pos q_2).symm.trans hf
        exact t_X11_fromWhere_46 h0 ih hf
      · have hf := (if_neg q_2).symm.trans hf
        refine z_aload_n dX11_fromWhere_24 rfl rfl ?_
        obtain ⟨a_3, ra_3, hf⟩ := z_rd_some hf
        refine zgR fl_X11_19 h0 (fun _ => rfl) ra_3 dX11_fromWhere_25 (fun ha_3 => ?_)
        refine z_iload_n dX11_fromWhere_28 rfl rfl ?_
        refine z_iload_n dX11_fromWhere_29 rfl rfl ?_
        obtain ⟨v_4, M_5, c_6, hf⟩ := z_call_some hf
        refine z_cSi (t_X11_floorOf  c_6) kw_X11_floorOf lk_X11_200 rfl (by decide) rfl (Nat.le_of_ble_eq_true rfl) ⟨Nat.le_refl 0, Nat.le_refl 0⟩ dX11_fromWhere_30 ?_
        obtain ⟨v_7, M_8, c_9, hf⟩ := z_call_some hf
        refine z_cVi (t_X8_riseTo ha_3 c_9) kw_X8_riseTo lk_X11_213 ha_3 rfl (by decide) rfl (Nat.le_of_ble_eq_true rfl) ⟨Nat.le_refl 0, Nat.le_refl 0⟩ dX11_fromWhere_33 ?_
        refine z_iload_n dX11_fromWhere_36 rfl rfl ?_
        refine z_icmp_ne (tgt := 46) dX11_fromWhere_37 (by decide) (fun q_10 => ?_) (fun q_10 => ?_)
        · have hf := (if_neg q_10).symm.trans hf
          exact t_X11_fromWhere_46 h0 ih hf
        · have hf := (if_pos q_10).symm.trans hf
          refine z_iload_n dX11_fromWhere_40 rfl rfl ?_
          refine z_iconst (v := 1) dX11_fromWhere_41 (by decide) ?_
          refine z_iload_n dX11_fromWhere_42 rfl rfl ?_
          refine z_ishl dX11_fromWhere_43 ?_
          refine z_ior dX11_fromWhere_44 ?_
          obtain ⟨x2_11, ex2_11, hf⟩ := zl_some hf
          refine z_istore_n' (lv' := [(2, .int x2_11), (0, .ref x0), (1, .int x1), (3, .int x3)]) rfl dX11_fromWhere_45 (by decide) ex2_11 rfl ?_
          refine zA.pick [(0, .ref x0), (1, .int x1), (2, .int x2_11), (3, .int x3)] [1, 2, 0, 3] rfl ?_
          exact t_X11_fromWhere_46 h0 ih hf
noncomputable def f_X11_fromWhere (x0 : Nat) (x1 : Int32) (M : zM) : Option (Int32 × zM) :=
  z_call (f_X11_isRoom x1 M) fun v_1 M_2 => (if v_1 = 0 then some ((-1), M_2) else (f_X11_fromWhere_13 x0 x1 zF 0 0 M_2))
set_option maxHeartbeats 2000000 in
set_option maxRecDepth 20000 in
theorem t_X11_fromWhere {l : Launch} {x0 : Nat} {x1 : Int32} {M MO : zM} {v : Int32} (h0 : z_tm SH 10 x0) (hf : f_X11_fromWhere x0 x1 M = some (v, MO)) : zMet l yX11_fromWhere cX11_fromWhere 4 (some .int) 4 0 0 [.ref x0, .int x1] SH M (zDi SH v MO) := by
  refine zMet.of (by decide +kernel) (Nat.le_of_ble_eq_true rfl) (Or.inr (Or.inl rfl)) ?_
  show zA l yX11_fromWhere cX11_fromWhere 4 (some .int) 4 0 0 SH.length (zDi SH v MO) 0 0 0 [(0, .ref x0), (1, .int x1)] [] SH M
  unfold f_X11_fromWhere at hf
  refine z_iload_n dX11_fromWhere_0 rfl rfl ?_
  obtain ⟨v_1, M_2, c_3, hf⟩ := z_call_some hf
  refine z_cSi (t_X11_isRoom  c_3) kw_X11_isRoom lk_X11_100 rfl (by decide) rfl (Nat.le_of_ble_eq_true rfl) ⟨Nat.le_refl 0, Nat.le_refl 0⟩ dX11_fromWhere_1 ?_
  refine z_if_ne (tgt := 9) dX11_fromWhere_4 (by decide) (fun q_4 => ?_) (fun q_4 => ?_)
  · have hf := (if_neg q_4).symm.trans hf
    refine z_iconst (v := 0) dX11_fromWhere_9 (by decide) ?_
    refine z_istore_n' (lv' := [(2, .int 0), (0, .ref x0), (1, .int x1)]) rfl dX11_fromWhere_10 (by decide) rfl rfl ?_
    refine z_iconst (v := 0) dX11_fromWhere_11 (by decide) ?_
    refine z_istore_n' (lv' := [(3, .int 0), (2, .int 0), (0, .ref x0), (1, .int x1)]) rfl dX11_fromWhere_12 (by decide) rfl rfl ?_
    refine zA.pick [(0, .ref x0), (1, .int x1), (2, .int 0), (3, .int 0)] [2, 3, 1, 0] rfl ?_
    exact t_X11_fromWhere_13 h0 zF 0 0 M_2 hf
  · have hf := (if_pos q_4).symm.trans hf
    refine z_iconst (v := (-1)) dX11_fromWhere_7 (by decide) ?_
    obtain ⟨rfl, rfl⟩ := z_end hf
    exact z_iret ⟨rfl, rfl, rfl⟩ (Or.inl rfl) dX11_fromWhere_8
noncomputable def f_X11_meet_31 (x0 : Nat) (x1 : Int32) (x2 : Int32) : Nat → Int32 → zM → Option (Int32 × zM)
  | 0, _, _ => none
  | n + 1, x4, M =>
    (if 5 < x4 then some ((-2), M) else z_rd (M.2.1 x0 1) fun a_2 => z_call (f_X8_riseTo a_2 x1 x4 M) fun v_3 M_4 => z_rd (M_4.2.1 x0 1) fun a_6 => z_call (f_X8_riseTo a_6 x2 x4 M_4) fun v_7 M_8 => (if v_3 = v_7 then some (v_3, M_8) else zl (x4 + 1) fun x4_11 => (f_X11_meet_31 x0 x1 x2 n x4_11 M_8)))
set_option maxHeartbeats 2000000 in
set_option maxRecDepth 20000 in
theorem t_X11_meet_31 {l : Launch} {x0 : Nat} {x1 : Int32} {x2 : Int32} {MO : zM} {v : Int32} (h0 : z_tm SH 10 x0) : ∀ (n : Nat) (x4 : Int32) (M : zM), f_X11_meet_31 x0 x1 x2 n x4 M = some (v, MO) → zA l yX11_meet cX11_meet 6 (some .int) 4 0 0 SH.length (zDi SH v MO) 0 0 31 [(0, .ref x0), (1, .int x1), (2, .int x2), (4, .int x4)] [] SH M := by
  intro n
  induction n with
  | zero =>
    intro x4 M hf
    rw [f_X11_meet_31] at hf
    cases hf
  | succ n ih =>
    intro x4 M hf
    rw [f_X11_meet_31] at hf
    refine z_iload dX11_meet_31 rfl ?_
    refine z_iconst (v := 5) dX11_meet_33 (by decide) ?_
    refine z_icmp_gt (tgt := 73) dX11_meet_34 (by decide) (fun q_1 => ?_) (fun q_1 => ?_)
    · have hf := (if_pos q_1).symm.trans hf
      refine z_bipush (v := (-2)) dX11_meet_73 (by decide) ?_
      obtain ⟨rfl, rfl⟩ := z_end hf
      exact z_iret ⟨rfl, rfl, rfl⟩ (Or.inl rfl) dX11_meet_75
    · have hf := (if_neg q_1).symm.trans hf
      refine z_aload_n dX11_meet_37 rfl rfl ?_
      obtain ⟨a_2, ra_2, hf⟩ := z_rd_some hf
      refine zgR fl_X11_19 h0 (fun _ => rfl) ra_2 dX11_meet_38 (fun ha_2 => ?_)
      refine z_iload_n dX11_meet_41 rfl rfl ?_
      refine z_iload dX11_meet_42 rfl ?_
      obtain ⟨v_3, M_4, c_5, hf⟩ := z_call_some hf
      refine z_cVi (t_X8_riseTo ha_2 c_5) kw_X8_riseTo lk_X11_213 ha_2 rfl (by decide) rfl (Nat.le_of_ble_eq_true rfl) ⟨Nat.le_refl 0, Nat.le_refl 0⟩ dX11_meet_44 ?_
      refine z_istore' (lv' := [(5, .int v_3), (0, .ref x0), (1, .int x1), (2, .int x2), (4, .int x4)]) dX11_meet_47 (by decide) rfl rfl ?_
      refine z_iload dX11_meet_49 rfl ?_
      refine z_aload_n dX11_meet_51 rfl rfl ?_
      obtain ⟨a_6, ra_6, hf⟩ := z_rd_some hf
      refine zgR fl_X11_19 h0 (fun _ => rfl) ra_6 dX11_meet_52 (fun ha_6 => ?_)
      refine z_iload_n dX11_meet_55 rfl rfl ?_
      refine z_iload dX11_meet_56 rfl ?_
      obtain ⟨v_7, M_8, c_9, hf⟩ := z_call_some hf
      refine z_cVi (t_X8_riseTo ha_6 c_9) kw_X8_riseTo lk_X11_213 ha_6 rfl (by decide) rfl (Nat.le_of_ble_eq_true rfl) ⟨Nat.le_refl 0, Nat.le_refl 0⟩ dX11_meet_58 ?_
      refine z_icmp_ne (tgt := 67) dX11_meet_61 (by decide) (fun q_10 => ?_) (fun q_10 => ?_)
      · have hf := (if_neg q_10).symm.trans hf
        obtain ⟨x4_11, ex4_11, hf⟩ := zl_some hf
        refine z_iinc' (lv' := [(4, .int x4_11), (5, .int v_3), (0, .ref x0), (1, .int x1), (2, .int x2)]) dX11_meet_67 rfl (by decide) ex4_11 (by decide) rfl ?_
        refine z_goto (tgt := 31) dX11_meet_70 (by decide) ?_
        refine zA.pick [(0, .ref x0), (1, .int x1), (2, .int x2), (4, .int x4_11)] [2, 3, 4, 0] rfl ?_
        exact ih x4_11 M_8 hf
      · have hf := (if_pos q_10).symm.trans hf
        refine z_iload dX11_meet_64 rfl ?_
        obtain ⟨rfl, rfl⟩ := z_end hf
        exact z_iret ⟨rfl, rfl, rfl⟩ (Or.inl rfl) dX11_meet_66
noncomputable def f_X11_meet (x0 : Nat) (x1 : Int32) (x2 : Int32) (M : zM) : Option (Int32 × zM) :=
  z_call (f_X11_isRoom x1 M) fun v_1 M_2 => (if v_1 = 0 then some ((-1), M_2) else z_call (f_X11_isRoom x2 M_2) fun v_5 M_6 => (if v_5 = 0 then some ((-1), M_6) else z_call (f_X11_floorOf x1 M_6) fun v_9 M_10 => z_call (f_X11_floorOf x2 M_10) fun v_12 M_13 => zl ((z_max v_9 v_12)) fun x3_15 => (f_X11_meet_31 x0 x1 x2 zF x3_15 M_13)))
set_option maxHeartbeats 2000000 in
set_option maxRecDepth 20000 in
theorem t_X11_meet {l : Launch} {x0 : Nat} {x1 : Int32} {x2 : Int32} {M MO : zM} {v : Int32} (h0 : z_tm SH 10 x0) (hf : f_X11_meet x0 x1 x2 M = some (v, MO)) : zMet l yX11_meet cX11_meet 6 (some .int) 4 0 0 [.ref x0, .int x1, .int x2] SH M (zDi SH v MO) := by
  refine zMet.of (by decide +kernel) (Nat.le_of_ble_eq_true rfl) (Or.inr (Or.inl rfl)) ?_
  show zA l yX11_meet cX11_meet 6 (some .int) 4 0 0 SH.length (zDi SH v MO) 0 0 0 [(0, .ref x0), (1, .int x1), (2, .int x2)] [] SH M
  unfold f_X11_meet at hf
  refine z_iload_n dX11_meet_0 rfl rfl ?_
  obtain ⟨v_1, M_2, c_3, hf⟩ := z_call_some hf
  refine z_cSi (t_X11_isRoom  c_3) kw_X11_isRoom lk_X11_100 rfl (by decide) rfl (Nat.le_of_ble_eq_true rfl) ⟨Nat.le_refl 0, Nat.le_refl 0⟩ dX11_meet_1 ?_
  refine z_if_eq (tgt := 14) dX11_meet_4 (by decide) (fun q_4 => ?_) (fun q_4 => ?_)
  · have hf := (if_pos q_4).symm.trans hf
    refine z_iconst (v := (-1)) dX11_meet_14 (by decide) ?_
    obtain ⟨rfl, rfl⟩ := z_end hf
    exact z_iret ⟨rfl, rfl, rfl⟩ (Or.inl rfl) dX11_meet_15
  · have hf := (if_neg q_4).symm.trans hf
    refine z_iload_n dX11_meet_7 rfl rfl ?_
    obtain ⟨v_5, M_6, c_7, hf⟩ := z_call_some hf
    refine z_cSi (t_X11_isRoom  c_7) kw_X11_isRoom lk_X11_100 rfl (by decide) rfl (Nat.le_of_ble_eq_true rfl) ⟨Nat.le_refl 0, Nat.le_refl 0⟩ dX11_meet_8 ?_
    refine z_if_ne (tgt := 16) dX11_meet_11 (by decide) (fun q_8 => ?_) (fun q_8 => ?_)
    · have hf := (if_neg q_8).symm.trans hf
      refine z_iload_n dX11_meet_16 rfl rfl ?_
      obtain ⟨v_9, M_10, c_11, hf⟩ := z_call_some hf
      refine z_cSi (t_X11_floorOf  c_11) kw_X11_floorOf lk_X11_200 rfl (by decide) rfl (Nat.le_of_ble_eq_true rfl) ⟨Nat.le_refl 0, Nat.le_refl 0⟩ dX11_meet_17 ?_
      refine z_iload_n dX11_meet_20 rfl rfl ?_
      obtain ⟨v_12, M_13, c_14, hf⟩ := z_call_some hf
      refine z_cSi (t_X11_floorOf  c_14) kw_X11_floorOf lk_X11_200 rfl (by decide) rfl (Nat.le_of_ble_eq_true rfl) ⟨Nat.le_refl 0, Nat.le_refl 0⟩ dX11_meet_21 ?_
      refine z_mmax mm_X11_216 mm_smax mm_ini mm_cmax (by decide) (Nat.le_of_ble_eq_true rfl) dX11_meet_24 ?_
      obtain ⟨x3_15, ex3_15, hf⟩ := zl_some hf
      refine z_istore_n' (lv' := [(3, .int x3_15), (0, .ref x0), (1, .int x1), (2, .int x2)]) rfl dX11_meet_27 (by decide) ex3_15 rfl ?_
      refine z_iload_n dX11_meet_28 rfl rfl ?_
      refine z_istore' (lv' := [(4, .int x3_15), (3, .int x3_15), (0, .ref x0), (1, .int x1), (2, .int x2)]) dX11_meet_29 (by decide) rfl rfl ?_
      refine zA.pick [(0, .ref x0), (1, .int x1), (2, .int x2), (4, .int x3_15)] [2, 3, 4, 0] rfl ?_
      exact t_X11_meet_31 h0 zF x3_15 M_13 hf
    · have hf := (if_pos q_8).symm.trans hf
      refine z_iconst (v := (-1)) dX11_meet_14 (by decide) ?_
      obtain ⟨rfl, rfl⟩ := z_end hf
      exact z_iret ⟨rfl, rfl, rfl⟩ (Or.inl rfl) dX11_meet_15
noncomputable def f_X11_cowls_4 (x0 : Nat) : Nat → Int32 → Int32 → zM → Option (Int32 × zM)
  | 0, _, _, _ => none
  | n + 1, x1, x2, M =>
    (if 4 ≤ x2 then z_call (f_J6_bitCount_0f7a4 x1 M) fun v_2 M_3 => some (v_2, M_3) else z_rd (M.2.1 x0 1) fun a_5 => z_call (f_X8_riseTo a_5 x2 5 M) fun v_6 M_7 => zl ((x1 ||| ((1 : Int32) <<< (v_6 &&& 31)))) fun x1_9 => zl (x2 + 1) fun x2_10 => (f_X11_cowls_4 x0 n x1_9 x2_10 M_7))
set_option maxHeartbeats 2000000 in
set_option maxRecDepth 20000 in
theorem t_X11_cowls_4 {l : Launch} {x0 : Nat} {MO : zM} {v : Int32} (h0 : z_tm SH 10 x0) : ∀ (n : Nat) (x1 : Int32) (x2 : Int32) (M : zM), f_X11_cowls_4 x0 n x1 x2 M = some (v, MO) → zA l yX11_cowls cX11_cowls 3 (some .int) 4 0 0 SH.length (zDi SH v MO) 0 0 4 [(0, .ref x0), (1, .int x1), (2, .int x2)] [] SH M := by
  intro n
  induction n with
  | zero =>
    intro x1 x2 M hf
    rw [f_X11_cowls_4] at hf
    cases hf
  | succ n ih =>
    intro x1 x2 M hf
    rw [f_X11_cowls_4] at hf
    refine z_iload_n dX11_cowls_4 rfl rfl ?_
    refine z_iconst (v := 4) dX11_cowls_5 (by decide) ?_
    refine z_icmp_ge (tgt := 29) dX11_cowls_6 (by decide) (fun q_1 => ?_) (fun q_1 => ?_)
    · have hf := (if_pos q_1).symm.trans hf
      refine z_iload_n dX11_cowls_29 rfl rfl ?_
      obtain ⟨v_2, M_3, c_4, hf⟩ := z_call_some hf
      refine z_cSi (t_J6_bitCount_0f7a4  c_4) kw_J6_bitCount_0f7a4 lk_X11_221 rfl (by decide) rfl (Nat.le_of_ble_eq_true rfl) ⟨Nat.le_refl 0, Nat.le_refl 0⟩ dX11_cowls_30 ?_
      obtain ⟨rfl, rfl⟩ := z_end hf
      exact z_iret ⟨rfl, rfl, rfl⟩ (Or.inl rfl) dX11_cowls_33
    · have hf := (if_neg q_1).symm.trans hf
      refine z_iload_n dX11_cowls_9 rfl rfl ?_
      refine z_iconst (v := 1) dX11_cowls_10 (by decide) ?_
      refine z_aload_n dX11_cowls_11 rfl rfl ?_
      obtain ⟨a_5, ra_5, hf⟩ := z_rd_some hf
      refine zgR fl_X11_19 h0 (fun _ => rfl) ra_5 dX11_cowls_12 (fun ha_5 => ?_)
      refine z_iload_n dX11_cowls_15 rfl rfl ?_
      refine z_iconst (v := 5) dX11_cowls_16 (by decide) ?_
      obtain ⟨v_6, M_7, c_8, hf⟩ := z_call_some hf
      refine z_cVi (t_X8_riseTo ha_5 c_8) kw_X8_riseTo lk_X11_213 ha_5 rfl (by decide) rfl (Nat.le_of_ble_eq_true rfl) ⟨Nat.le_refl 0, Nat.le_refl 0⟩ dX11_cowls_17 ?_
      refine z_ishl dX11_cowls_20 ?_
      refine z_ior dX11_cowls_21 ?_
      obtain ⟨x1_9, ex1_9, hf⟩ := zl_some hf
      refine z_istore_n' (lv' := [(1, .int x1_9), (0, .ref x0), (2, .int x2)]) rfl dX11_cowls_22 (by decide) ex1_9 rfl ?_
      obtain ⟨x2_10, ex2_10, hf⟩ := zl_some hf
      refine z_iinc' (lv' := [(2, .int x2_10), (1, .int x1_9), (0, .ref x0)]) dX11_cowls_23 rfl (by decide) ex2_10 (by decide) rfl ?_
      refine z_goto (tgt := 4) dX11_cowls_26 (by decide) ?_
      refine zA.pick [(0, .ref x0), (1, .int x1_9), (2, .int x2_10)] [2, 1, 0] rfl ?_
      exact ih x1_9 x2_10 M_7 hf
noncomputable def f_X11_cowls (x0 : Nat) (M : zM) : Option (Int32 × zM) :=
  (f_X11_cowls_4 x0 zF 0 0 M)
set_option maxHeartbeats 2000000 in
set_option maxRecDepth 20000 in
theorem t_X11_cowls {l : Launch} {x0 : Nat} {M MO : zM} {v : Int32} (h0 : z_tm SH 10 x0) (hf : f_X11_cowls x0 M = some (v, MO)) : zMet l yX11_cowls cX11_cowls 3 (some .int) 4 0 0 [.ref x0] SH M (zDi SH v MO) := by
  refine zMet.of (by decide +kernel) (Nat.le_of_ble_eq_true rfl) (Or.inr (Or.inl rfl)) ?_
  show zA l yX11_cowls cX11_cowls 3 (some .int) 4 0 0 SH.length (zDi SH v MO) 0 0 0 [(0, .ref x0)] [] SH M
  unfold f_X11_cowls at hf
  refine z_iconst (v := 0) dX11_cowls_0 (by decide) ?_
  refine z_istore_n' (lv' := [(1, .int 0), (0, .ref x0)]) rfl dX11_cowls_1 (by decide) rfl rfl ?_
  refine z_iconst (v := 0) dX11_cowls_2 (by decide) ?_
  refine z_istore_n' (lv' := [(2, .int 0), (1, .int 0), (0, .ref x0)]) rfl dX11_cowls_3 (by decide) rfl rfl ?_
  refine zA.pick [(0, .ref x0), (1, .int 0), (2, .int 0)] [2, 1, 0] rfl ?_
  exact t_X11_cowls_4 h0 zF 0 0 M hf
noncomputable def f_X11_isRise (x0 : Int32) (x1 : Int32) (M : zM) : Option (Int32 × zM) :=
  z_call (f_X11_isRoom x0 M) fun v_1 M_2 => (if v_1 = 0 then some (0, M_2) else z_call (f_X11_isRoom x1 M_2) fun v_5 M_6 => (if v_5 = 0 then some (0, M_6) else z_call (f_X11_floorOf x1 M_6) fun v_9 M_10 => z_call (f_X11_floorOf x0 M_10) fun v_12 M_13 => (if v_9 ≤ v_12 then some (0, M_13) else some (1, M_13))))
set_option maxHeartbeats 2000000 in
set_option maxRecDepth 20000 in
theorem t_X11_isRise {l : Launch} {x0 : Int32} {x1 : Int32} {M MO : zM} {v : Int32} (hf : f_X11_isRise x0 x1 M = some (v, MO)) : zMet l yX11_isRise cX11_isRise 2 (some .boolean) 2 0 0 [.int x0, .int x1] SH M (zDi SH v MO) := by
  refine zMet.of (by decide +kernel) (Nat.le_of_ble_eq_true rfl) (Or.inr (Or.inr (Or.inl rfl))) ?_
  show zA l yX11_isRise cX11_isRise 2 (some .boolean) 2 0 0 SH.length (zDi SH v MO) 0 0 0 [(0, .int x0), (1, .int x1)] [] SH M
  unfold f_X11_isRise at hf
  refine z_iload_n dX11_isRise_0 rfl rfl ?_
  obtain ⟨v_1, M_2, c_3, hf⟩ := z_call_some hf
  refine z_cSi (t_X11_isRoom  c_3) kw_X11_isRoom lk_X11_100 rfl (by decide) rfl (Nat.le_of_ble_eq_true rfl) ⟨Nat.le_refl 0, Nat.le_refl 0⟩ dX11_isRise_1 ?_
  refine z_if_eq (tgt := 29) dX11_isRise_4 (by decide) (fun q_4 => ?_) (fun q_4 => ?_)
  · have hf := (if_pos q_4).symm.trans hf
    refine z_iconst (v := 0) dX11_isRise_29 (by decide) ?_
    obtain ⟨rfl, rfl⟩ := z_end hf
    exact z_iret ⟨rfl, rfl, rfl⟩ (Or.inr ⟨rfl, (Or.inl rfl)⟩) dX11_isRise_30
  · have hf := (if_neg q_4).symm.trans hf
    refine z_iload_n dX11_isRise_7 rfl rfl ?_
    obtain ⟨v_5, M_6, c_7, hf⟩ := z_call_some hf
    refine z_cSi (t_X11_isRoom  c_7) kw_X11_isRoom lk_X11_100 rfl (by decide) rfl (Nat.le_of_ble_eq_true rfl) ⟨Nat.le_refl 0, Nat.le_refl 0⟩ dX11_isRise_8 ?_
    refine z_if_eq (tgt := 29) dX11_isRise_11 (by decide) (fun q_8 => ?_) (fun q_8 => ?_)
    · have hf := (if_pos q_8).symm.trans hf
      refine z_iconst (v := 0) dX11_isRise_29 (by decide) ?_
      obtain ⟨rfl, rfl⟩ := z_end hf
      exact z_iret ⟨rfl, rfl, rfl⟩ (Or.inr ⟨rfl, (Or.inl rfl)⟩) dX11_isRise_30
    · have hf := (if_neg q_8).symm.trans hf
      refine z_iload_n dX11_isRise_14 rfl rfl ?_
      obtain ⟨v_9, M_10, c_11, hf⟩ := z_call_some hf
      refine z_cSi (t_X11_floorOf  c_11) kw_X11_floorOf lk_X11_200 rfl (by decide) rfl (Nat.le_of_ble_eq_true rfl) ⟨Nat.le_refl 0, Nat.le_refl 0⟩ dX11_isRise_15 ?_
      refine z_iload_n dX11_isRise_18 rfl rfl ?_
      obtain ⟨v_12, M_13, c_14, hf⟩ := z_call_some hf
      refine z_cSi (t_X11_floorOf  c_14) kw_X11_floorOf lk_X11_200 rfl (by decide) rfl (Nat.le_of_ble_eq_true rfl) ⟨Nat.le_refl 0, Nat.le_refl 0⟩ dX11_isRise_19 ?_
      refine z_icmp_le (tgt := 29) dX11_isRise_22 (by decide) (fun q_15 => ?_) (fun q_15 => ?_)
      · have hf := (if_pos q_15).symm.trans hf
        refine z_iconst (v := 0) dX11_isRise_29 (by decide) ?_
        obtain ⟨rfl, rfl⟩ := z_end hf
        exact z_iret ⟨rfl, rfl, rfl⟩ (Or.inr ⟨rfl, (Or.inl rfl)⟩) dX11_isRise_30
      · have hf := (if_neg q_15).symm.trans hf
        refine z_iconst (v := 1) dX11_isRise_25 (by decide) ?_
        refine z_goto (tgt := 30) dX11_isRise_26 (by decide) ?_
        obtain ⟨rfl, rfl⟩ := z_end hf
        exact z_iret ⟨rfl, rfl, rfl⟩ (Or.inr ⟨rfl, (Or.inr rfl)⟩) dX11_isRise_30
noncomputable def f_X11_turn_25 (x0 : Nat) (x1 : Int32) (x2 : Int32) (x3 : Int32) (M : zM) : Option (Int32 × zM) :=
  z_rd (M.2.1 x0 7) fun a_1 => z_rd (M.2.1 x0 1) fun a_2 => z_call (f_X2_turned a_1 a_2 x1 x2 x3 M) fun v_3 M_4 => some (v_3, M_4)
set_option maxHeartbeats 2000000 in
set_option maxRecDepth 20000 in
theorem t_X11_turn_25 {l : Launch} {x0 : Nat} {x1 : Int32} {x2 : Int32} {x3 : Int32} {M MO : zM} {v : Int32} (h0 : z_tm SH 10 x0) (hf : f_X11_turn_25 x0 x1 x2 x3 M = some (v, MO)) : zA l yX11_turn cX11_turn 4 (some .int) 6 0 0 SH.length (zDi SH v MO) 0 0 25 [(0, .ref x0), (1, .int x1), (2, .int x2), (3, .int x3)] [] SH M := by
  unfold f_X11_turn_25 at hf
  refine z_aload_n dX11_turn_25 rfl rfl ?_
  obtain ⟨a_1, ra_1, hf⟩ := z_rd_some hf
  refine zgR fl_X11_71 h0 (fun _ => rfl) ra_1 dX11_turn_26 (fun ha_1 => ?_)
  refine z_aload_n dX11_turn_29 rfl rfl ?_
  obtain ⟨a_2, ra_2, hf⟩ := z_rd_some hf
  refine zgR fl_X11_19 h0 (fun _ => rfl) ra_2 dX11_turn_30 (fun ha_2 => ?_)
  refine z_iload_n dX11_turn_33 rfl rfl ?_
  refine z_iload_n dX11_turn_34 rfl rfl ?_
  refine z_iload_n dX11_turn_35 rfl rfl ?_
  obtain ⟨v_3, M_4, c_5, hf⟩ := z_call_some hf
  refine z_cVi (t_X2_turned ha_1 ha_2 c_5) kw_X2_turned lk_X11_230 ha_1 rfl (by decide) rfl (Nat.le_of_ble_eq_true rfl) ⟨Nat.le_refl 0, Nat.le_refl 0⟩ dX11_turn_36 ?_
  obtain ⟨rfl, rfl⟩ := z_end hf
  exact z_iret ⟨rfl, rfl, rfl⟩ (Or.inl rfl) dX11_turn_39
noncomputable def f_X11_turn (x0 : Nat) (x1 : Int32) (x2 : Int32) (x3 : Int32) (M : zM) : Option (Int32 × zM) :=
  z_call (f_X11_isRise x1 x2 M) fun v_1 M_2 => (if v_1 = 0 then some ((-1), M_2) else (if x3 = 100 then (f_X11_turn_25 x0 x1 x2 x3 M_2) else z_call (f_X11_isWithin x3 0 4 M_2) fun v_6 M_7 => (if v_6 = 0 then some ((-1), M_7) else (f_X11_turn_25 x0 x1 x2 x3 M_7))))
set_option maxHeartbeats 2000000 in
set_option maxRecDepth 20000 in
theorem t_X11_turn {l : Launch} {x0 : Nat} {x1 : Int32} {x2 : Int32} {x3 : Int32} {M MO : zM} {v : Int32} (h0 : z_tm SH 10 x0) (hf : f_X11_turn x0 x1 x2 x3 M = some (v, MO)) : zMet l yX11_turn cX11_turn 4 (some .int) 6 0 0 [.ref x0, .int x1, .int x2, .int x3] SH M (zDi SH v MO) := by
  refine zMet.of (by decide +kernel) (Nat.le_of_ble_eq_true rfl) (Or.inr (Or.inl rfl)) ?_
  show zA l yX11_turn cX11_turn 4 (some .int) 6 0 0 SH.length (zDi SH v MO) 0 0 0 [(0, .ref x0), (1, .int x1), (2, .int x2), (3, .int x3)] [] SH M
  unfold f_X11_turn at hf
  refine z_iload_n dX11_turn_0 rfl rfl ?_
  refine z_iload_n dX11_turn_1 rfl rfl ?_
  obtain ⟨v_1, M_2, c_3, hf⟩ := z_call_some hf
  refine z_cSi (t_X11_isRise  c_3) kw_X11_isRise lk_X11_226 rfl (by decide) rfl (Nat.le_of_ble_eq_true rfl) ⟨Nat.le_refl 0, Nat.le_refl 0⟩ dX11_turn_2 ?_
  refine z_if_eq (tgt := 23) dX11_turn_5 (by decide) (fun q_4 => ?_) (fun q_4 => ?_)
  · have hf := (if_pos q_4).symm.trans hf
    refine z_iconst (v := (-1)) dX11_turn_23 (by decide) ?_
    obtain ⟨rfl, rfl⟩ := z_end hf
    exact z_iret ⟨rfl, rfl, rfl⟩ (Or.inl rfl) dX11_turn_24
  · have hf := (if_neg q_4).symm.trans hf
    refine z_iload_n dX11_turn_8 rfl rfl ?_
    refine z_bipush (v := 100) dX11_turn_9 (by decide) ?_
    refine z_icmp_eq (tgt := 25) dX11_turn_11 (by decide) (fun q_5 => ?_) (fun q_5 => ?_)
    · have hf := (if_pos q_5).symm.trans hf
      exact t_X11_turn_25 h0 hf
    · have hf := (if_neg q_5).symm.trans hf
      refine z_iload_n dX11_turn_14 rfl rfl ?_
      refine z_iconst (v := 0) dX11_turn_15 (by decide) ?_
      refine z_iconst (v := 4) dX11_turn_16 (by decide) ?_
      obtain ⟨v_6, M_7, c_8, hf⟩ := z_call_some hf
      refine z_cSi (t_X11_isWithin  c_8) kw_X11_isWithin lk_X11_104 rfl (by decide) rfl (Nat.le_of_ble_eq_true rfl) ⟨Nat.le_refl 0, Nat.le_refl 0⟩ dX11_turn_17 ?_
      refine z_if_ne (tgt := 25) dX11_turn_20 (by decide) (fun q_9 => ?_) (fun q_9 => ?_)
      · have hf := (if_neg q_9).symm.trans hf
        exact t_X11_turn_25 h0 hf
      · have hf := (if_pos q_9).symm.trans hf
        refine z_iconst (v := (-1)) dX11_turn_23 (by decide) ?_
        obtain ⟨rfl, rfl⟩ := z_end hf
        exact z_iret ⟨rfl, rfl, rfl⟩ (Or.inl rfl) dX11_turn_24
noncomputable def f_X11_ways (x0 : Nat) (x1 : Int32) (x2 : Int32) (M : zM) : Option (Int32 × zM) :=
  z_call (f_X11_isRise x1 x2 M) fun v_1 M_2 => (if v_1 = 0 then some ((-1), M_2) else z_rd (M_2.2.1 x0 7) fun a_5 => z_call (f_X2_numberOfRows a_5 x1 x2 M_2) fun v_6 M_7 => some (v_6, M_7))
set_option maxHeartbeats 2000000 in
set_option maxRecDepth 20000 in
theorem t_X11_ways {l : Launch} {x0 : Nat} {x1 : Int32} {x2 : Int32} {M MO : zM} {v : Int32} (h0 : z_tm SH 10 x0) (hf : f_X11_ways x0 x1 x2 M = some (v, MO)) : zMet l yX11_ways cX11_ways 3 (some .int) 4 0 0 [.ref x0, .int x1, .int x2] SH M (zDi SH v MO) := by
  refine zMet.of (by decide +kernel) (Nat.le_of_ble_eq_true rfl) (Or.inr (Or.inl rfl)) ?_
  show zA l yX11_ways cX11_ways 3 (some .int) 4 0 0 SH.length (zDi SH v MO) 0 0 0 [(0, .ref x0), (1, .int x1), (2, .int x2)] [] SH M
  unfold f_X11_ways at hf
  refine z_iload_n dX11_ways_0 rfl rfl ?_
  refine z_iload_n dX11_ways_1 rfl rfl ?_
  obtain ⟨v_1, M_2, c_3, hf⟩ := z_call_some hf
  refine z_cSi (t_X11_isRise  c_3) kw_X11_isRise lk_X11_226 rfl (by decide) rfl (Nat.le_of_ble_eq_true rfl) ⟨Nat.le_refl 0, Nat.le_refl 0⟩ dX11_ways_2 ?_
  refine z_if_ne (tgt := 10) dX11_ways_5 (by decide) (fun q_4 => ?_) (fun q_4 => ?_)
  · have hf := (if_neg q_4).symm.trans hf
    refine z_aload_n dX11_ways_10 rfl rfl ?_
    obtain ⟨a_5, ra_5, hf⟩ := z_rd_some hf
    refine zgR fl_X11_71 h0 (fun _ => rfl) ra_5 dX11_ways_11 (fun ha_5 => ?_)
    refine z_iload_n dX11_ways_14 rfl rfl ?_
    refine z_iload_n dX11_ways_15 rfl rfl ?_
    obtain ⟨v_6, M_7, c_8, hf⟩ := z_call_some hf
    refine z_cVi (t_X2_numberOfRows ha_5 c_8) kw_X2_numberOfRows lk_X11_234 ha_5 rfl (by decide) rfl (Nat.le_of_ble_eq_true rfl) ⟨Nat.le_refl 0, Nat.le_refl 0⟩ dX11_ways_16 ?_
    obtain ⟨rfl, rfl⟩ := z_end hf
    exact z_iret ⟨rfl, rfl, rfl⟩ (Or.inl rfl) dX11_ways_19
  · have hf := (if_pos q_4).symm.trans hf
    refine z_iconst (v := (-1)) dX11_ways_8 (by decide) ?_
    obtain ⟨rfl, rfl⟩ := z_end hf
    exact z_iret ⟨rfl, rfl, rfl⟩ (Or.inl rfl) dX11_ways_9
noncomputable def f_X11_stockings (x0 : Nat) (x1 : Int32) (x2 : Int32) (M : zM) : Option (Int32 × zM) :=
  z_call (f_X11_isWithin x1 0 16777215 M) fun v_1 M_2 => (if v_1 = 0 then some ((-1), M_2) else z_call (f_X11_isWithin x2 0 1 M_2) fun v_5 M_6 => (if v_5 = 0 then some ((-1), M_6) else z_rd (M_6.2.1 x0 7) fun a_9 => z_rd (M_6.2.1 x0 1) fun a_10 => z_call (f_X2_fewestShut a_9 a_10 x1 M_6) fun v_11 M_12 => (if x2 = 0 then z_call (f_J6_bitCount_0f7a4 v_11 M_12) fun v_15 M_16 => some (v_15, M_16) else some (v_11, M_12))))
set_option maxHeartbeats 2000000 in
set_option maxRecDepth 20000 in
theorem t_X11_stockings {l : Launch} {x0 : Nat} {x1 : Int32} {x2 : Int32} {M MO : zM} {v : Int32} (h0 : z_tm SH 10 x0) (hf : f_X11_stockings x0 x1 x2 M = some (v, MO)) : zMet l yX11_stockings cX11_stockings 4 (some .int) 4 0 0 [.ref x0, .int x1, .int x2] SH M (zDi SH v MO) := by
  refine zMet.of (by decide +kernel) (Nat.le_of_ble_eq_true rfl) (Or.inr (Or.inl rfl)) ?_
  show zA l yX11_stockings cX11_stockings 4 (some .int) 4 0 0 SH.length (zDi SH v MO) 0 0 0 [(0, .ref x0), (1, .int x1), (2, .int x2)] [] SH M
  unfold f_X11_stockings at hf
  refine z_iload_n dX11_stockings_0 rfl rfl ?_
  refine z_iconst (v := 0) dX11_stockings_1 (by decide) ?_
  refine z_ldc (v := 16777215) dX11_stockings_2 cn_X11_237 ?_
  obtain ⟨v_1, M_2, c_3, hf⟩ := z_call_some hf
  refine z_cSi (t_X11_isWithin  c_3) kw_X11_isWithin lk_X11_104 rfl (by decide) rfl (Nat.le_of_ble_eq_true rfl) ⟨Nat.le_refl 0, Nat.le_refl 0⟩ dX11_stockings_4 ?_
  refine z_if_eq (tgt := 19) dX11_stockings_7 (by decide) (fun q_4 => ?_) (fun q_4 => ?_)
  · have hf := (if_pos q_4).symm.trans hf
    refine z_iconst (v := (-1)) dX11_stockings_19 (by decide) ?_
    obtain ⟨rfl, rfl⟩ := z_end hf
    exact z_iret ⟨rfl, rfl, rfl⟩ (Or.inl rfl) dX11_stockings_20
  · have hf := (if_neg q_4).symm.trans hf
    refine z_iload_n dX11_stockings_10 rfl rfl ?_
    refine z_iconst (v := 0) dX11_stockings_11 (by decide) ?_
    refine z_iconst (v := 1) dX11_stockings_12 (by decide) ?_
    obtain ⟨v_5, M_6, c_7, hf⟩ := z_call_some hf
    refine z_cSi (t_X11_isWithin  c_7) kw_X11_isWithin lk_X11_104 rfl (by decide) rfl (Nat.le_of_ble_eq_true rfl) ⟨Nat.le_refl 0, Nat.le_refl 0⟩ dX11_stockings_13 ?_
    refine z_if_ne (tgt := 21) dX11_stockings_16 (by decide) (fun q_8 => ?_) (fun q_8 => ?_)
    · have hf := (if_neg q_8).symm.trans hf
      refine z_aload_n dX11_stockings_21 rfl rfl ?_
      obtain ⟨a_9, ra_9, hf⟩ := z_rd_some hf
      refine zgR fl_X11_71 h0 (fun _ => rfl) ra_9 dX11_stockings_22 (fun ha_9 => ?_)
      refine z_aload_n dX11_stockings_25 rfl rfl ?_
      obtain ⟨a_10, ra_10, hf⟩ := z_rd_some hf
      refine zgR fl_X11_19 h0 (fun _ => rfl) ra_10 dX11_stockings_26 (fun ha_10 => ?_)
      refine z_iload_n dX11_stockings_29 rfl rfl ?_
      obtain ⟨v_11, M_12, c_13, hf⟩ := z_call_some hf
      refine z_cVi (t_X2_fewestShut ha_9 ha_10 c_13) kw_X2_fewestShut lk_X11_238 ha_9 rfl (by decide) rfl (Nat.le_of_ble_eq_true rfl) ⟨Nat.le_refl 0, Nat.le_refl 0⟩ dX11_stockings_30 ?_
      refine z_istore_n' (lv' := [(3, .int v_11), (0, .ref x0), (1, .int x1), (2, .int x2)]) rfl dX11_stockings_33 (by decide) rfl rfl ?_
      refine z_iload_n dX11_stockings_34 rfl rfl ?_
      refine z_if_ne (tgt := 45) dX11_stockings_35 (by decide) (fun q_14 => ?_) (fun q_14 => ?_)
      · have hf := (if_neg q_14).symm.trans hf
        refine z_iload_n dX11_stockings_45 rfl rfl ?_
        obtain ⟨rfl, rfl⟩ := z_end hf
        exact z_iret ⟨rfl, rfl, rfl⟩ (Or.inl rfl) dX11_stockings_46
      · have hf := (if_pos q_14).symm.trans hf
        refine z_iload_n dX11_stockings_38 rfl rfl ?_
        obtain ⟨v_15, M_16, c_17, hf⟩ := z_call_some hf
        refine z_cSi (t_J6_bitCount_0f7a4  c_17) kw_J6_bitCount_0f7a4 lk_X11_221 rfl (by decide) rfl (Nat.le_of_ble_eq_true rfl) ⟨Nat.le_refl 0, Nat.le_refl 0⟩ dX11_stockings_39 ?_
        refine z_goto (tgt := 46) dX11_stockings_42 (by decide) ?_
        obtain ⟨rfl, rfl⟩ := z_end hf
        exact z_iret ⟨rfl, rfl, rfl⟩ (Or.inl rfl) dX11_stockings_46
    · have hf := (if_pos q_8).symm.trans hf
      refine z_iconst (v := (-1)) dX11_stockings_19 (by decide) ?_
      obtain ⟨rfl, rfl⟩ := z_end hf
      exact z_iret ⟨rfl, rfl, rfl⟩ (Or.inl rfl) dX11_stockings_20
noncomputable def f_X11_sleep_49 (x0 : Nat) (x1 : Int32) (x2 : Int32) (x3 : Int32) (M : zM) : Option (Int64 × zM) :=
  z_rd (M.2.1 x0 0) fun a_1 => z_call (f_X10_has a_1 x1 M) fun v_2 M_3 => (if v_2 = 0 then some ((-1), M_3) else z_rd (M_3.2.1 x0 0) fun a_6 => z_call (f_X10_take a_6 x1 M_3) fun v_7 M_8 => z_rd (M_8.2.1 x0 9) fun a_10 => z_rd (M_8.2.1 x0 0) fun a_11 => z_rd (M_8.2.1 x0 1) fun a_12 => z_call (f_X1_share a_10 a_11 x1 a_12 x2 M_8) fun v_13 M_14 => (if x3 = 100 then z_rd (M_14.2.1 x0 9) fun a_20 => some ((M_14.2.2 a_20 5), M_14) else z_rd (M_14.2.1 x0 9) fun a_17 => z_rd (M_14.2.1 a_17 3) fun a_18 => if z_ix x3 (z_ln SH a_18) = true then some (((M_14.1 a_18 (x3 : Int32).toNatClampNeg) : Int32).toInt64, M_14) else none))
set_option maxHeartbeats 2000000 in
set_option maxRecDepth 20000 in
theorem t_X11_sleep_49 {l : Launch} {x0 : Nat} {x1 : Int32} {x2 : Int32} {x3 : Int32} {M MO : zM} {v : Int64} (h0 : z_tm SH 10 x0) (hf : f_X11_sleep_49 x0 x1 x2 x3 M = some (v, MO)) : zA l yX11_sleep cX11_sleep 4 (some .long) 20 0 0 SH.length (zDl SH v MO) 0 0 49 [(0, .ref x0), (1, .int x1), (2, .int x2), (3, .int x3)] [] SH M := by
  unfold f_X11_sleep_49 at hf
  refine z_aload_n dX11_sleep_49 rfl rfl ?_
  obtain ⟨a_1, ra_1, hf⟩ := z_rd_some hf
  refine zgR fl_X11_12 h0 (fun _ => rfl) ra_1 dX11_sleep_50 (fun ha_1 => ?_)
  refine z_iload_n dX11_sleep_53 rfl rfl ?_
  obtain ⟨v_2, M_3, c_4, hf⟩ := z_call_some hf
  refine z_cVi (t_X10_has ha_1 c_4) kw_X10_has lk_X11_131 ha_1 rfl (by decide) rfl (Nat.le_of_ble_eq_true rfl) ⟨Nat.le_refl 0, Nat.le_refl 0⟩ dX11_sleep_54 ?_
  refine z_if_ne (tgt := 64) dX11_sleep_57 (by decide) (fun q_5 => ?_) (fun q_5 => ?_)
  · have hf := (if_neg q_5).symm.trans hf
    refine z_aload_n dX11_sleep_64 rfl rfl ?_
    obtain ⟨a_6, ra_6, hf⟩ := z_rd_some hf
    refine zgR fl_X11_12 h0 (fun _ => rfl) ra_6 dX11_sleep_65 (fun ha_6 => ?_)
    refine z_iload_n dX11_sleep_68 rfl rfl ?_
    obtain ⟨v_7, M_8, c_9, hf⟩ := z_call_some hf
    refine z_cVv (t_X10_take ha_6 c_9) kw_X10_take lk_X11_134 ha_6 rfl (by decide) rfl (Nat.le_of_ble_eq_true rfl) ⟨Nat.le_refl 0, Nat.le_refl 0⟩ dX11_sleep_69 ?_
    refine z_aload_n dX11_sleep_72 rfl rfl ?_
    obtain ⟨a_10, ra_10, hf⟩ := z_rd_some hf
    refine zgR fl_X11_85 h0 (fun _ => rfl) ra_10 dX11_sleep_73 (fun ha_10 => ?_)
    refine z_aload_n dX11_sleep_76 rfl rfl ?_
    obtain ⟨a_11, ra_11, hf⟩ := z_rd_some hf
    refine zgR fl_X11_12 h0 (fun _ => rfl) ra_11 dX11_sleep_77 (fun ha_11 => ?_)
    refine z_iload_n dX11_sleep_80 rfl rfl ?_
    refine z_aload_n dX11_sleep_81 rfl rfl ?_
    obtain ⟨a_12, ra_12, hf⟩ := z_rd_some hf
    refine zgR fl_X11_19 h0 (fun _ => rfl) ra_12 dX11_sleep_82 (fun ha_12 => ?_)
    refine z_iload_n dX11_sleep_85 rfl rfl ?_
    obtain ⟨v_13, M_14, c_15, hf⟩ := z_call_some hf
    refine z_cVv (t_X1_share ha_10 ha_11 ha_12 c_15) kw_X1_share lk_X11_244 ha_10 rfl (by decide) rfl (Nat.le_of_ble_eq_true rfl) ⟨Nat.le_refl 0, Nat.le_refl 0⟩ dX11_sleep_86 ?_
    refine z_iload_n dX11_sleep_89 rfl rfl ?_
    refine z_bipush (v := 100) dX11_sleep_90 (by decide) ?_
    refine z_icmp_ne (tgt := 105) dX11_sleep_92 (by decide) (fun q_16 => ?_) (fun q_16 => ?_)
    · have hf := (if_neg q_16).symm.trans hf
      refine z_aload_n dX11_sleep_105 rfl rfl ?_
      obtain ⟨a_17, ra_17, hf⟩ := z_rd_some hf
      refine zgR fl_X11_85 h0 (fun _ => rfl) ra_17 dX11_sleep_106 (fun ha_17 => ?_)
      obtain ⟨a_18, ra_18, hf⟩ := z_rd_some hf
      refine zgR fl_X11_252 ha_17 (fun _ => rfl) ra_18 dX11_sleep_109 (fun ha_18 => ?_)
      refine z_iload_n dX11_sleep_112 rfl rfl ?_
      obtain ⟨g_19, hf⟩ := z_ifs hf
      refine z_iald ha_18 g_19 rfl dX11_sleep_113 ?_
      refine z_i2l dX11_sleep_114 ?_
      obtain ⟨rfl, rfl⟩ := z_end hf
      exact z_lret ⟨rfl, rfl, rfl⟩ rfl dX11_sleep_115
    · have hf := (if_pos q_16).symm.trans hf
      refine z_aload_n dX11_sleep_95 rfl rfl ?_
      obtain ⟨a_20, ra_20, hf⟩ := z_rd_some hf
      refine zgR fl_X11_85 h0 (fun _ => rfl) ra_20 dX11_sleep_96 (fun ha_20 => ?_)
      refine zgL fl_X11_248 ha_20 rfl dX11_sleep_99 ?_
      refine z_goto (tgt := 115) dX11_sleep_102 (by decide) ?_
      obtain ⟨rfl, rfl⟩ := z_end hf
      exact z_lret ⟨rfl, rfl, rfl⟩ rfl dX11_sleep_115
  · have hf := (if_pos q_5).symm.trans hf
    refine z_ldc2 (v := (-1)) dX11_sleep_60 cn_X11_242 ?_
    obtain ⟨rfl, rfl⟩ := z_end hf
    exact z_lret ⟨rfl, rfl, rfl⟩ rfl dX11_sleep_63
noncomputable def f_X11_sleep (x0 : Nat) (x1 : Int32) (x2 : Int32) (x3 : Int32) (M : zM) : Option (Int64 × zM) :=
  z_call (f_X11_isWithin x1 1 6 M) fun v_1 M_2 => (if v_1 = 0 then some ((-1), M_2) else z_call (f_X11_isWithin x2 0 16777215 M_2) fun v_5 M_6 => (if v_5 = 0 then some ((-1), M_6) else z_call (f_J6_bitCount_0f7a4 x2 M_6) fun v_9 M_10 => (if v_9 = x1 then (if x3 = 100 then (f_X11_sleep_49 x0 x1 x2 x3 M_10) else z_call (f_X11_isWithin x3 0 (x1 - 1) M_10) fun v_14 M_15 => (if v_14 = 0 then some ((-1), M_15) else (f_X11_sleep_49 x0 x1 x2 x3 M_15))) else some ((-1), M_10))))
set_option maxHeartbeats 2000000 in
set_option maxRecDepth 20000 in
theorem t_X11_sleep {l : Launch} {x0 : Nat} {x1 : Int32} {x2 : Int32} {x3 : Int32} {M MO : zM} {v : Int64} (h0 : z_tm SH 10 x0) (hf : f_X11_sleep x0 x1 x2 x3 M = some (v, MO)) : zMet l yX11_sleep cX11_sleep 4 (some .long) 20 0 0 [.ref x0, .int x1, .int x2, .int x3] SH M (zDl SH v MO) := by
  refine zMet.of (by decide +kernel) (Nat.le_of_ble_eq_true rfl) (Or.inr (Or.inr (Or.inr rfl))) ?_
  show zA l yX11_sleep cX11_sleep 4 (some .long) 20 0 0 SH.length (zDl SH v MO) 0 0 0 [(0, .ref x0), (1, .int x1), (2, .int x2), (3, .int x3)] [] SH M
  unfold f_X11_sleep at hf
  refine z_iload_n dX11_sleep_0 rfl rfl ?_
  refine z_iconst (v := 1) dX11_sleep_1 (by decide) ?_
  refine z_bipush (v := 6) dX11_sleep_2 (by decide) ?_
  obtain ⟨v_1, M_2, c_3, hf⟩ := z_call_some hf
  refine z_cSi (t_X11_isWithin  c_3) kw_X11_isWithin lk_X11_104 rfl (by decide) rfl (Nat.le_of_ble_eq_true rfl) ⟨Nat.le_refl 0, Nat.le_refl 0⟩ dX11_sleep_4 ?_
  refine z_if_eq (tgt := 28) dX11_sleep_7 (by decide) (fun q_4 => ?_) (fun q_4 => ?_)
  · have hf := (if_pos q_4).symm.trans hf
    refine z_ldc2 (v := (-1)) dX11_sleep_28 cn_X11_242 ?_
    obtain ⟨rfl, rfl⟩ := z_end hf
    exact z_lret ⟨rfl, rfl, rfl⟩ rfl dX11_sleep_31
  · have hf := (if_neg q_4).symm.trans hf
    refine z_iload_n dX11_sleep_10 rfl rfl ?_
    refine z_iconst (v := 0) dX11_sleep_11 (by decide) ?_
    refine z_ldc (v := 16777215) dX11_sleep_12 cn_X11_237 ?_
    obtain ⟨v_5, M_6, c_7, hf⟩ := z_call_some hf
    refine z_cSi (t_X11_isWithin  c_7) kw_X11_isWithin lk_X11_104 rfl (by decide) rfl (Nat.le_of_ble_eq_true rfl) ⟨Nat.le_refl 0, Nat.le_refl 0⟩ dX11_sleep_14 ?_
    refine z_if_eq (tgt := 28) dX11_sleep_17 (by decide) (fun q_8 => ?_) (fun q_8 => ?_)
    · have hf := (if_pos q_8).symm.trans hf
      refine z_ldc2 (v := (-1)) dX11_sleep_28 cn_X11_242 ?_
      obtain ⟨rfl, rfl⟩ := z_end hf
      exact z_lret ⟨rfl, rfl, rfl⟩ rfl dX11_sleep_31
    · have hf := (if_neg q_8).symm.trans hf
      refine z_iload_n dX11_sleep_20 rfl rfl ?_
      obtain ⟨v_9, M_10, c_11, hf⟩ := z_call_some hf
      refine z_cSi (t_J6_bitCount_0f7a4  c_11) kw_J6_bitCount_0f7a4 lk_X11_221 rfl (by decide) rfl (Nat.le_of_ble_eq_true rfl) ⟨Nat.le_refl 0, Nat.le_refl 0⟩ dX11_sleep_21 ?_
      refine z_iload_n dX11_sleep_24 rfl rfl ?_
      refine z_icmp_eq (tgt := 32) dX11_sleep_25 (by decide) (fun q_12 => ?_) (fun q_12 => ?_)
      · have hf := (if_pos q_12).symm.trans hf
        refine z_iload_n dX11_sleep_32 rfl rfl ?_
        refine z_bipush (v := 100) dX11_sleep_33 (by decide) ?_
        refine z_icmp_eq (tgt := 49) dX11_sleep_35 (by decide) (fun q_13 => ?_) (fun q_13 => ?_)
        · have hf := (if_pos q_13).symm.trans hf
          exact t_X11_sleep_49 h0 hf
        · have hf := (if_neg q_13).symm.trans hf
          refine z_iload_n dX11_sleep_38 rfl rfl ?_
          refine z_iconst (v := 0) dX11_sleep_39 (by decide) ?_
          refine z_iload_n dX11_sleep_40 rfl rfl ?_
          refine z_iconst (v := 1) dX11_sleep_41 (by decide) ?_
          refine z_isub dX11_sleep_42 ?_
          obtain ⟨v_14, M_15, c_16, hf⟩ := z_call_some hf
          refine z_cSi (t_X11_isWithin  c_16) kw_X11_isWithin lk_X11_104 rfl (by decide) rfl (Nat.le_of_ble_eq_true rfl) ⟨Nat.le_refl 0, Nat.le_refl 0⟩ dX11_sleep_43 ?_
          refine z_if_eq (tgt := 60) dX11_sleep_46 (by decide) (fun q_17 => ?_) (fun q_17 => ?_)
          · have hf := (if_pos q_17).symm.trans hf
            refine z_ldc2 (v := (-1)) dX11_sleep_60 cn_X11_242 ?_
            obtain ⟨rfl, rfl⟩ := z_end hf
            exact z_lret ⟨rfl, rfl, rfl⟩ rfl dX11_sleep_63
          · have hf := (if_neg q_17).symm.trans hf
            exact t_X11_sleep_49 h0 hf
      · have hf := (if_neg q_12).symm.trans hf
        refine z_ldc2 (v := (-1)) dX11_sleep_28 cn_X11_242 ?_
        obtain ⟨rfl, rfl⟩ := z_end hf
        exact z_lret ⟨rfl, rfl, rfl⟩ rfl dX11_sleep_31
noncomputable def f_X11_roomThatFeelsMost_33 (x0 : Nat) (k4 : Int32 → Int32 → zM → Option (Int32 × zM)) (x1 : Int32) (x2 : Int32) (M : zM) : Option (Int32 × zM) :=
  zl (x2 + 1) fun x2_1 => (k4 x1 x2_1 M)
set_option maxHeartbeats 2000000 in
set_option maxRecDepth 20000 in
theorem t_X11_roomThatFeelsMost_33 {l : Launch} {x0 : Nat} {k4 : Int32 → Int32 → zM → Option (Int32 × zM)} {x1 : Int32} {x2 : Int32} {M MO : zM} {v : Int32} (h0 : z_tm SH 10 x0) (hk4 : ∀ (x1 : Int32) (x2 : Int32) (M : zM), k4 x1 x2 M = some (v, MO) → zA l yX11_roomThatFeelsMost cX11_roomThatFeelsMost 3 (some .int) 1 0 0 SH.length (zDi SH v MO) 0 0 4 [(0, .ref x0), (1, .int x1), (2, .int x2)] [] SH M) (hf : f_X11_roomThatFeelsMost_33 x0 k4 x1 x2 M = some (v, MO)) : zA l yX11_roomThatFeelsMost cX11_roomThatFeelsMost 3 (some .int) 1 0 0 SH.length (zDi SH v MO) 0 0 33 [(0, .ref x0), (1, .int x1), (2, .int x2)] [] SH M := by
  unfold f_X11_roomThatFeelsMost_33 at hf
  obtain ⟨x2_1, ex2_1, hf⟩ := zl_some hf
  refine z_iinc' (lv' := [(2, .int x2_1), (0, .ref x0), (1, .int x1)]) dX11_roomThatFeelsMost_33 rfl (by decide) ex2_1 (by decide) rfl ?_
  refine z_goto (tgt := 4) dX11_roomThatFeelsMost_36 (by decide) ?_
  refine zA.pick [(0, .ref x0), (1, .int x1), (2, .int x2_1)] [1, 2, 0] rfl ?_
  exact hk4 x1 x2_1 M hf
noncomputable def f_X11_roomThatFeelsMost_4 (x0 : Nat) : Nat → Int32 → Int32 → zM → Option (Int32 × zM)
  | 0, _, _, _ => none
  | n + 1, x1, x2, M =>
    (if 24 ≤ x2 then z_rd (M.2.1 x0 1) fun a_2 => z_rd (M.2.1 a_2 4) fun a_3 => if z_ix x1 (z_ln SH a_3) = true then (if (M.1 a_3 (x1 : Int32).toNatClampNeg) = 0 then some ((-2), M) else some (x1, M)) else none else z_rd (M.2.1 x0 1) fun a_6 => z_rd (M.2.1 a_6 4) fun a_7 => if z_ix x2 (z_ln SH a_7) = true then z_rd (M.2.1 x0 1) fun a_9 => z_rd (M.2.1 a_9 4) fun a_10 => if z_ix x1 (z_ln SH a_10) = true then (if (M.1 a_7 (x2 : Int32).toNatClampNeg) ≤ (M.1 a_10 (x1 : Int32).toNatClampNeg) then (f_X11_roomThatFeelsMost_33 x0 (f_X11_roomThatFeelsMost_4 x0 n) x1 x2 M) else (f_X11_roomThatFeelsMost_33 x0 (f_X11_roomThatFeelsMost_4 x0 n) x2 x2 M)) else none else none)
set_option maxHeartbeats 2000000 in
set_option maxRecDepth 20000 in
theorem t_X11_roomThatFeelsMost_4 {l : Launch} {x0 : Nat} {MO : zM} {v : Int32} (h0 : z_tm SH 10 x0) : ∀ (n : Nat) (x1 : Int32) (x2 : Int32) (M : zM), f_X11_roomThatFeelsMost_4 x0 n x1 x2 M = some (v, MO) → zA l yX11_roomThatFeelsMost cX11_roomThatFeelsMost 3 (some .int) 1 0 0 SH.length (zDi SH v MO) 0 0 4 [(0, .ref x0), (1, .int x1), (2, .int x2)] [] SH M := by
  intro n
  induction n with
  | zero =>
    intro x1 x2 M hf
    rw [f_X11_roomThatFeelsMost_4] at hf
    cases hf
  | succ n ih =>
    intro x1 x2 M hf
    rw [f_X11_roomThatFeelsMost_4] at hf
    refine z_iload_n dX11_roomThatFeelsMost_4 rfl rfl ?_
    refine z_bipush (v := 24) dX11_roomThatFeelsMost_5 (by decide) ?_
    refine z_icmp_ge (tgt := 39) dX11_roomThatFeelsMost_7 (by decide) (fun q_1 => ?_) (fun q_1 => ?_)
    · have hf := (if_pos q_1).symm.trans hf
      refine z_aload_n dX11_roomThatFeelsMost_39 rfl rfl ?_
      obtain ⟨a_2, ra_2, hf⟩ := z_rd_some hf
      refine zgR fl_X11_19 h0 (fun _ => rfl) ra_2 dX11_roomThatFeelsMost_40 (fun ha_2 => ?_)
      obtain ⟨a_3, ra_3, hf⟩ := z_rd_some hf
      refine zgR fl_X11_177 ha_2 (fun _ => rfl) ra_3 dX11_roomThatFeelsMost_43 (fun ha_3 => ?_)
      refine z_iload_n dX11_roomThatFeelsMost_46 rfl rfl ?_
      obtain ⟨g_4, hf⟩ := z_ifs hf
      refine z_iald ha_3 g_4 rfl dX11_roomThatFeelsMost_47 ?_
      refine z_if_ne (tgt := 56) dX11_roomThatFeelsMost_48 (by decide) (fun q_5 => ?_) (fun q_5 => ?_)
      · have hf := (if_neg q_5).symm.trans hf
        refine z_iload_n dX11_roomThatFeelsMost_56 rfl rfl ?_
        obtain ⟨rfl, rfl⟩ := z_end hf
        exact z_iret ⟨rfl, rfl, rfl⟩ (Or.inl rfl) dX11_roomThatFeelsMost_57
      · have hf := (if_pos q_5).symm.trans hf
        refine z_bipush (v := (-2)) dX11_roomThatFeelsMost_51 (by decide) ?_
        refine z_goto (tgt := 57) dX11_roomThatFeelsMost_53 (by decide) ?_
        obtain ⟨rfl, rfl⟩ := z_end hf
        exact z_iret ⟨rfl, rfl, rfl⟩ (Or.inl rfl) dX11_roomThatFeelsMost_57
    · have hf := (if_neg q_1).symm.trans hf
      refine z_aload_n dX11_roomThatFeelsMost_10 rfl rfl ?_
      obtain ⟨a_6, ra_6, hf⟩ := z_rd_some hf
      refine zgR fl_X11_19 h0 (fun _ => rfl) ra_6 dX11_roomThatFeelsMost_11 (fun ha_6 => ?_)
      obtain ⟨a_7, ra_7, hf⟩ := z_rd_some hf
      refine zgR fl_X11_177 ha_6 (fun _ => rfl) ra_7 dX11_roomThatFeelsMost_14 (fun ha_7 => ?_)
      refine z_iload_n dX11_roomThatFeelsMost_17 rfl rfl ?_
      obtain ⟨g_8, hf⟩ := z_ifs hf
      refine z_iald ha_7 g_8 rfl dX11_roomThatFeelsMost_18 ?_
      refine z_aload_n dX11_roomThatFeelsMost_19 rfl rfl ?_
      obtain ⟨a_9, ra_9, hf⟩ := z_rd_some hf
      refine zgR fl_X11_19 h0 (fun _ => rfl) ra_9 dX11_roomThatFeelsMost_20 (fun ha_9 => ?_)
      obtain ⟨a_10, ra_10, hf⟩ := z_rd_some hf
      refine zgR fl_X11_177 ha_9 (fun _ => rfl) ra_10 dX11_roomThatFeelsMost_23 (fun ha_10 => ?_)
      refine z_iload_n dX11_roomThatFeelsMost_26 rfl rfl ?_
      obtain ⟨g_11, hf⟩ := z_ifs hf
      refine z_iald ha_10 g_11 rfl dX11_roomThatFeelsMost_27 ?_
      refine z_icmp_le (tgt := 33) dX11_roomThatFeelsMost_28 (by decide) (fun q_12 => ?_) (fun q_12 => ?_)
      · have hf := (if_pos q_12).symm.trans hf
        exact t_X11_roomThatFeelsMost_33 h0 ih hf
      · have hf := (if_neg q_12).symm.trans hf
        refine z_iload_n dX11_roomThatFeelsMost_31 rfl rfl ?_
        refine z_istore_n' (lv' := [(1, .int x2), (0, .ref x0), (2, .int x2)]) rfl dX11_roomThatFeelsMost_32 (by decide) rfl rfl ?_
        refine zA.pick [(0, .ref x0), (1, .int x2), (2, .int x2)] [1, 0, 2] rfl ?_
        exact t_X11_roomThatFeelsMost_33 h0 ih hf
noncomputable def f_X11_roomThatFeelsMost (x0 : Nat) (M : zM) : Option (Int32 × zM) :=
  (f_X11_roomThatFeelsMost_4 x0 zF 0 1 M)
set_option maxHeartbeats 2000000 in
set_option maxRecDepth 20000 in
theorem t_X11_roomThatFeelsMost {l : Launch} {x0 : Nat} {M MO : zM} {v : Int32} (h0 : z_tm SH 10 x0) (hf : f_X11_roomThatFeelsMost x0 M = some (v, MO)) : zMet l yX11_roomThatFeelsMost cX11_roomThatFeelsMost 3 (some .int) 1 0 0 [.ref x0] SH M (zDi SH v MO) := by
  refine zMet.of (by decide +kernel) (Nat.le_of_ble_eq_true rfl) (Or.inr (Or.inl rfl)) ?_
  show zA l yX11_roomThatFeelsMost cX11_roomThatFeelsMost 3 (some .int) 1 0 0 SH.length (zDi SH v MO) 0 0 0 [(0, .ref x0)] [] SH M
  unfold f_X11_roomThatFeelsMost at hf
  refine z_iconst (v := 0) dX11_roomThatFeelsMost_0 (by decide) ?_
  refine z_istore_n' (lv' := [(1, .int 0), (0, .ref x0)]) rfl dX11_roomThatFeelsMost_1 (by decide) rfl rfl ?_
  refine z_iconst (v := 1) dX11_roomThatFeelsMost_2 (by decide) ?_
  refine z_istore_n' (lv' := [(2, .int 1), (1, .int 0), (0, .ref x0)]) rfl dX11_roomThatFeelsMost_3 (by decide) rfl rfl ?_
  refine zA.pick [(0, .ref x0), (1, .int 0), (2, .int 1)] [2, 1, 0] rfl ?_
  exact t_X11_roomThatFeelsMost_4 h0 zF 0 1 M hf
noncomputable def f_X11_roomsThatFeel_28 (x0 : Nat) (x1 : Int32) (k4 : Int32 → Int32 → zM → Option (Int32 × zM)) (x2 : Int32) (x3 : Int32) (M : zM) : Option (Int32 × zM) :=
  zl (x3 + 1) fun x3_1 => (k4 x2 x3_1 M)
set_option maxHeartbeats 2000000 in
set_option maxRecDepth 20000 in
theorem t_X11_roomsThatFeel_28 {l : Launch} {x0 : Nat} {x1 : Int32} {k4 : Int32 → Int32 → zM → Option (Int32 × zM)} {x2 : Int32} {x3 : Int32} {M MO : zM} {v : Int32} (h0 : z_tm SH 10 x0) (hk4 : ∀ (x2 : Int32) (x3 : Int32) (M : zM), k4 x2 x3 M = some (v, MO) → zA l yX11_roomsThatFeel cX11_roomsThatFeel 4 (some .int) 3 0 0 SH.length (zDi SH v MO) 0 0 4 [(0, .ref x0), (1, .int x1), (2, .int x2), (3, .int x3)] [] SH M) (hf : f_X11_roomsThatFeel_28 x0 x1 k4 x2 x3 M = some (v, MO)) : zA l yX11_roomsThatFeel cX11_roomsThatFeel 4 (some .int) 3 0 0 SH.length (zDi SH v MO) 0 0 28 [(0, .ref x0), (1, .int x1), (2, .int x2), (3, .int x3)] [] SH M := by
  unfold f_X11_roomsThatFeel_28 at hf
  obtain ⟨x3_1, ex3_1, hf⟩ := zl_some hf
  refine z_iinc' (lv' := [(3, .int x3_1), (0, .ref x0), (1, .int x1), (2, .int x2)]) dX11_roomsThatFeel_28 rfl (by decide) ex3_1 (by decide) rfl ?_
  refine z_goto (tgt := 4) dX11_roomsThatFeel_31 (by decide) ?_
  refine zA.pick [(0, .ref x0), (1, .int x1), (2, .int x2), (3, .int x3_1)] [1, 2, 3, 0] rfl ?_
  exact hk4 x2 x3_1 M hf
noncomputable def f_X11_roomsThatFeel_4 (x0 : Nat) (x1 : Int32) : Nat → Int32 → Int32 → zM → Option (Int32 × zM)
  | 0, _, _, _ => none
  | n + 1, x2, x3, M =>
    (if 24 ≤ x3 then some (x2, M) else z_rd (M.2.1 x0 1) fun a_2 => z_call (f_X8_feelsOf a_2 x3 x1 M) fun v_3 M_4 => (if v_3 ≤ 0 then (f_X11_roomsThatFeel_28 x0 x1 (f_X11_roomsThatFeel_4 x0 x1 n) x2 x3 M_4) else zl ((x2 ||| ((1 : Int32) <<< (x3 &&& 31)))) fun x2_7 => (f_X11_roomsThatFeel_28 x0 x1 (f_X11_roomsThatFeel_4 x0 x1 n) x2_7 x3 M_4)))
set_option maxHeartbeats 2000000 in
set_option maxRecDepth 20000 in
theorem t_X11_roomsThatFeel_4 {l : Launch} {x0 : Nat} {x1 : Int32} {MO : zM} {v : Int32} (h0 : z_tm SH 10 x0) : ∀ (n : Nat) (x2 : Int32) (x3 : Int32) (M : zM), f_X11_roomsThatFeel_4 x0 x1 n x2 x3 M = some (v, MO) → zA l yX11_roomsThatFeel cX11_roomsThatFeel 4 (some .int) 3 0 0 SH.length (zDi SH v MO) 0 0 4 [(0, .ref x0), (1, .int x1), (2, .int x2), (3, .int x3)] [] SH M := by
  intro n
  induction n with
  | zero =>
    intro x2 x3 M hf
    rw [f_X11_roomsThatFeel_4] at hf
    cases hf
  | succ n ih =>
    intro x2 x3 M hf
    rw [f_X11_roomsThatFeel_4] at hf
    refine z_iload_n dX11_roomsThatFeel_4 rfl rfl ?_
    refine z_bipush (v := 24) dX11_roomsThatFeel_5 (by decide) ?_
    refine z_icmp_ge (tgt := 34) dX11_roomsThatFeel_7 (by decide) (fun q_1 => ?_) (fun q_1 => ?_)
    · have hf := (if_pos q_1).symm.trans hf
      refine z_iload_n dX11_roomsThatFeel_34 rfl rfl ?_
      obtain ⟨rfl, rfl⟩ := z_end hf
      exact z_iret ⟨rfl, rfl, rfl⟩ (Or.inl rfl) dX11_roomsThatFeel_35
    · have hf := (if_neg q_1).symm.trans hf
      refine z_aload_n dX11_roomsThatFeel_10 rfl rfl ?_
      obtain ⟨a_2, ra_2, hf⟩ := z_rd_some hf
      refine zgR fl_X11_19 h0 (fun _ => rfl) ra_2 dX11_roomsThatFeel_11 (fun ha_2 => ?_)
      refine z_iload_n dX11_roomsThatFeel_14 rfl rfl ?_
      refine z_iload_n dX11_roomsThatFeel_15 rfl rfl ?_
      obtain ⟨v_3, M_4, c_5, hf⟩ := z_call_some hf
      refine z_cVi (t_X8_feelsOf ha_2 c_5) kw_X8_feelsOf lk_X11_196 ha_2 rfl (by decide) rfl (Nat.le_of_ble_eq_true rfl) ⟨Nat.le_refl 0, Nat.le_refl 0⟩ dX11_roomsThatFeel_16 ?_
      refine z_if_le (tgt := 28) dX11_roomsThatFeel_19 (by decide) (fun q_6 => ?_) (fun q_6 => ?_)
      · have hf := (if_pos q_6).symm.trans hf
        exact t_X11_roomsThatFeel_28 h0 ih hf
      · have hf := (if_neg q_6).symm.trans hf
        refine z_iload_n dX11_roomsThatFeel_22 rfl rfl ?_
        refine z_iconst (v := 1) dX11_roomsThatFeel_23 (by decide) ?_
        refine z_iload_n dX11_roomsThatFeel_24 rfl rfl ?_
        refine z_ishl dX11_roomsThatFeel_25 ?_
        refine z_ior dX11_roomsThatFeel_26 ?_
        obtain ⟨x2_7, ex2_7, hf⟩ := zl_some hf
        refine z_istore_n' (lv' := [(2, .int x2_7), (0, .ref x0), (1, .int x1), (3, .int x3)]) rfl dX11_roomsThatFeel_27 (by decide) ex2_7 rfl ?_
        refine zA.pick [(0, .ref x0), (1, .int x1), (2, .int x2_7), (3, .int x3)] [1, 2, 0, 3] rfl ?_
        exact t_X11_roomsThatFeel_28 h0 ih hf
noncomputable def f_X11_roomsThatFeel (x0 : Nat) (x1 : Int32) (M : zM) : Option (Int32 × zM) :=
  (f_X11_roomsThatFeel_4 x0 x1 zF 0 0 M)
set_option maxHeartbeats 2000000 in
set_option maxRecDepth 20000 in
theorem t_X11_roomsThatFeel {l : Launch} {x0 : Nat} {x1 : Int32} {M MO : zM} {v : Int32} (h0 : z_tm SH 10 x0) (hf : f_X11_roomsThatFeel x0 x1 M = some (v, MO)) : zMet l yX11_roomsThatFeel cX11_roomsThatFeel 4 (some .int) 3 0 0 [.ref x0, .int x1] SH M (zDi SH v MO) := by
  refine zMet.of (by decide +kernel) (Nat.le_of_ble_eq_true rfl) (Or.inr (Or.inl rfl)) ?_
  show zA l yX11_roomsThatFeel cX11_roomsThatFeel 4 (some .int) 3 0 0 SH.length (zDi SH v MO) 0 0 0 [(0, .ref x0), (1, .int x1)] [] SH M
  unfold f_X11_roomsThatFeel at hf
  refine z_iconst (v := 0) dX11_roomsThatFeel_0 (by decide) ?_
  refine z_istore_n' (lv' := [(2, .int 0), (0, .ref x0), (1, .int x1)]) rfl dX11_roomsThatFeel_1 (by decide) rfl rfl ?_
  refine z_iconst (v := 0) dX11_roomsThatFeel_2 (by decide) ?_
  refine z_istore_n' (lv' := [(3, .int 0), (2, .int 0), (0, .ref x0), (1, .int x1)]) rfl dX11_roomsThatFeel_3 (by decide) rfl rfl ?_
  refine zA.pick [(0, .ref x0), (1, .int x1), (2, .int 0), (3, .int 0)] [2, 3, 1, 0] rfl ?_
  exact t_X11_roomsThatFeel_4 h0 zF 0 0 M hf
noncomputable def f_X11_breakfast (x0 : Nat) (x1 : Int32) (M : zM) : Option (Int32 × zM) :=
  (if x1 = 100 then z_call (f_X11_roomThatFeelsMost x0 M) fun v_9 M_10 => some (v_9, M_10) else z_call (f_X11_isRoom x1 M) fun v_2 M_3 => (if v_2 = 0 then some ((-1), M_3) else z_call (f_X11_roomsThatFeel x0 x1 M_3) fun v_6 M_7 => some (v_6, M_7)))
set_option maxHeartbeats 2000000 in
set_option maxRecDepth 20000 in
theorem t_X11_breakfast {l : Launch} {x0 : Nat} {x1 : Int32} {M MO : zM} {v : Int32} (h0 : z_tm SH 10 x0) (hf : f_X11_breakfast x0 x1 M = some (v, MO)) : zMet l yX11_breakfast cX11_breakfast 2 (some .int) 4 0 0 [.ref x0, .int x1] SH M (zDi SH v MO) := by
  refine zMet.of (by decide +kernel) (Nat.le_of_ble_eq_true rfl) (Or.inr (Or.inl rfl)) ?_
  show zA l yX11_breakfast cX11_breakfast 2 (some .int) 4 0 0 SH.length (zDi SH v MO) 0 0 0 [(0, .ref x0), (1, .int x1)] [] SH M
  unfold f_X11_breakfast at hf
  refine z_iload_n dX11_breakfast_0 rfl rfl ?_
  refine z_bipush (v := 100) dX11_breakfast_1 (by decide) ?_
  refine z_icmp_ne (tgt := 11) dX11_breakfast_3 (by decide) (fun q_1 => ?_) (fun q_1 => ?_)
  · have hf := (if_neg q_1).symm.trans hf
    refine z_iload_n dX11_breakfast_11 rfl rfl ?_
    obtain ⟨v_2, M_3, c_4, hf⟩ := z_call_some hf
    refine z_cSi (t_X11_isRoom  c_4) kw_X11_isRoom lk_X11_100 rfl (by decide) rfl (Nat.le_of_ble_eq_true rfl) ⟨Nat.le_refl 0, Nat.le_refl 0⟩ dX11_breakfast_12 ?_
    refine z_if_eq (tgt := 26) dX11_breakfast_15 (by decide) (fun q_5 => ?_) (fun q_5 => ?_)
    · have hf := (if_pos q_5).symm.trans hf
      refine z_iconst (v := (-1)) dX11_breakfast_26 (by decide) ?_
      obtain ⟨rfl, rfl⟩ := z_end hf
      exact z_iret ⟨rfl, rfl, rfl⟩ (Or.inl rfl) dX11_breakfast_27
    · have hf := (if_neg q_5).symm.trans hf
      refine z_aload_n dX11_breakfast_18 rfl rfl ?_
      refine z_iload_n dX11_breakfast_19 rfl rfl ?_
      obtain ⟨v_6, M_7, c_8, hf⟩ := z_call_some hf
      refine z_cVi (t_X11_roomsThatFeel h0 c_8) kw_X11_roomsThatFeel lk_X11_259 h0 rfl (by decide) rfl (Nat.le_of_ble_eq_true rfl) ⟨Nat.le_refl 0, Nat.le_refl 0⟩ dX11_breakfast_20 ?_
      refine z_goto (tgt := 27) dX11_breakfast_23 (by decide) ?_
      obtain ⟨rfl, rfl⟩ := z_end hf
      exact z_iret ⟨rfl, rfl, rfl⟩ (Or.inl rfl) dX11_breakfast_27
  · have hf := (if_pos q_1).symm.trans hf
    refine z_aload_n dX11_breakfast_6 rfl rfl ?_
    obtain ⟨v_9, M_10, c_11, hf⟩ := z_call_some hf
    refine z_cVi (t_X11_roomThatFeelsMost h0 c_11) kw_X11_roomThatFeelsMost lk_X11_255 h0 rfl (by decide) rfl (Nat.le_of_ble_eq_true rfl) ⟨Nat.le_refl 0, Nat.le_refl 0⟩ dX11_breakfast_7 ?_
    obtain ⟨rfl, rfl⟩ := z_end hf
    exact z_iret ⟨rfl, rfl, rfl⟩ (Or.inl rfl) dX11_breakfast_10
noncomputable def f_X11_ropes (x0 : Nat) (x1 : Int32) (x2 : Int32) (x3 : Int32) (M : zM) : Option (Int32 × zM) :=
  z_call (f_X11_isRoom x1 M) fun v_1 M_2 => (if v_1 = 0 then some ((-1), M_2) else z_call (f_X11_isWithin x2 0 99999 M_2) fun v_5 M_6 => (if v_5 = 0 then some ((-1), M_6) else z_call (f_X11_isWithin x3 0 1 M_6) fun v_9 M_10 => (if v_9 = 0 then some ((-1), M_10) else z_rd (M_10.2.1 x0 8) fun a_13 => z_rd (M_10.2.1 x0 1) fun a_14 => z_call (f_X7_let a_13 a_14 x1 x2 x3 M_10) fun v_15 M_16 => some (v_15, M_16))))
set_option maxHeartbeats 2000000 in
set_option maxRecDepth 20000 in
theorem t_X11_ropes {l : Launch} {x0 : Nat} {x1 : Int32} {x2 : Int32} {x3 : Int32} {M MO : zM} {v : Int32} (h0 : z_tm SH 10 x0) (hf : f_X11_ropes x0 x1 x2 x3 M = some (v, MO)) : zMet l yX11_ropes cX11_ropes 4 (some .int) 4 0 0 [.ref x0, .int x1, .int x2, .int x3] SH M (zDi SH v MO) := by
  refine zMet.of (by decide +kernel) (Nat.le_of_ble_eq_true rfl) (Or.inr (Or.inl rfl)) ?_
  show zA l yX11_ropes cX11_ropes 4 (some .int) 4 0 0 SH.length (zDi SH v MO) 0 0 0 [(0, .ref x0), (1, .int x1), (2, .int x2), (3, .int x3)] [] SH M
  unfold f_X11_ropes at hf
  refine z_iload_n dX11_ropes_0 rfl rfl ?_
  obtain ⟨v_1, M_2, c_3, hf⟩ := z_call_some hf
  refine z_cSi (t_X11_isRoom  c_3) kw_X11_isRoom lk_X11_100 rfl (by decide) rfl (Nat.le_of_ble_eq_true rfl) ⟨Nat.le_refl 0, Nat.le_refl 0⟩ dX11_ropes_1 ?_
  refine z_if_eq (tgt := 27) dX11_ropes_4 (by decide) (fun q_4 => ?_) (fun q_4 => ?_)
  · have hf := (if_pos q_4).symm.trans hf
    refine z_iconst (v := (-1)) dX11_ropes_27 (by decide) ?_
    obtain ⟨rfl, rfl⟩ := z_end hf
    exact z_iret ⟨rfl, rfl, rfl⟩ (Or.inl rfl) dX11_ropes_28
  · have hf := (if_neg q_4).symm.trans hf
    refine z_iload_n dX11_ropes_7 rfl rfl ?_
    refine z_iconst (v := 0) dX11_ropes_8 (by decide) ?_
    refine z_ldcw (v := 99999) dX11_ropes_9 cn_X11_262 ?_
    obtain ⟨v_5, M_6, c_7, hf⟩ := z_call_some hf
    refine z_cSi (t_X11_isWithin  c_7) kw_X11_isWithin lk_X11_104 rfl (by decide) rfl (Nat.le_of_ble_eq_true rfl) ⟨Nat.le_refl 0, Nat.le_refl 0⟩ dX11_ropes_12 ?_
    refine z_if_eq (tgt := 27) dX11_ropes_15 (by decide) (fun q_8 => ?_) (fun q_8 => ?_)
    · have hf := (if_pos q_8).symm.trans hf
      refine z_iconst (v := (-1)) dX11_ropes_27 (by decide) ?_
      obtain ⟨rfl, rfl⟩ := z_end hf
      exact z_iret ⟨rfl, rfl, rfl⟩ (Or.inl rfl) dX11_ropes_28
    · have hf := (if_neg q_8).symm.trans hf
      refine z_iload_n dX11_ropes_18 rfl rfl ?_
      refine z_iconst (v := 0) dX11_ropes_19 (by decide) ?_
      refine z_iconst (v := 1) dX11_ropes_20 (by decide) ?_
      obtain ⟨v_9, M_10, c_11, hf⟩ := z_call_some hf
      refine z_cSi (t_X11_isWithin  c_11) kw_X11_isWithin lk_X11_104 rfl (by decide) rfl (Nat.le_of_ble_eq_true rfl) ⟨Nat.le_refl 0, Nat.le_refl 0⟩ dX11_ropes_21 ?_
      refine z_if_ne (tgt := 29) dX11_ropes_24 (by decide) (fun q_12 => ?_) (fun q_12 => ?_)
      · have hf := (if_neg q_12).symm.trans hf
        refine z_aload_n dX11_ropes_29 rfl rfl ?_
        obtain ⟨a_13, ra_13, hf⟩ := z_rd_some hf
        refine zgR fl_X11_78 h0 (fun _ => rfl) ra_13 dX11_ropes_30 (fun ha_13 => ?_)
        refine z_aload_n dX11_ropes_33 rfl rfl ?_
        obtain ⟨a_14, ra_14, hf⟩ := z_rd_some hf
        refine zgR fl_X11_19 h0 (fun _ => rfl) ra_14 dX11_ropes_34 (fun ha_14 => ?_)
        refine z_iload_n dX11_ropes_37 rfl rfl ?_
        refine z_iload_n dX11_ropes_38 rfl rfl ?_
        refine z_iload_n dX11_ropes_39 rfl rfl ?_
        obtain ⟨v_15, M_16, c_17, hf⟩ := z_call_some hf
        refine z_cVi (t_X7_let ha_13 ha_14 c_17) kw_X7_let lk_X11_263 ha_13 rfl (by decide) rfl (Nat.le_of_ble_eq_true rfl) ⟨Nat.le_refl 0, Nat.le_refl 0⟩ dX11_ropes_40 ?_
        obtain ⟨rfl, rfl⟩ := z_end hf
        exact z_iret ⟨rfl, rfl, rfl⟩ (Or.inl rfl) dX11_ropes_43
      · have hf := (if_pos q_12).symm.trans hf
        refine z_iconst (v := (-1)) dX11_ropes_27 (by decide) ?_
        obtain ⟨rfl, rfl⟩ := z_end hf
        exact z_iret ⟨rfl, rfl, rfl⟩ (Or.inl rfl) dX11_ropes_28
noncomputable def f_X11_taps_41 (x0 : Nat) (x1 : Int32) (x2 : Int32) (M : zM) : Option (Int32 × zM) :=
  z_rd (M.2.1 x0 0) fun a_1 => z_call (f_X10_take a_1 x1 M) fun v_2 M_3 => z_rd (M_3.2.1 x0 0) fun a_5 => z_call (f_X9_read a_5 x2 M_3) fun v_6 M_7 => z_rd (M_7.2.1 x0 0) fun a_9 => z_call (f_X10_isFaulty a_9 M_7) fun v_10 M_11 => (if v_10 = 0 then some (v_6, M_11) else z_rd (M_11.2.1 x0 0) fun a_14 => some ((M_11.1 a_14 4), M_11))
set_option maxHeartbeats 2000000 in
set_option maxRecDepth 20000 in
theorem t_X11_taps_41 {l : Launch} {x0 : Nat} {x1 : Int32} {x2 : Int32} {M MO : zM} {v : Int32} (h0 : z_tm SH 10 x0) (hf : f_X11_taps_41 x0 x1 x2 M = some (v, MO)) : zA l yX11_taps cX11_taps 4 (some .int) 5 0 0 SH.length (zDi SH v MO) 0 0 41 [(0, .ref x0), (1, .int x1), (2, .int x2)] [] SH M := by
  unfold f_X11_taps_41 at hf
  refine z_aload_n dX11_taps_41 rfl rfl ?_
  obtain ⟨a_1, ra_1, hf⟩ := z_rd_some hf
  refine zgR fl_X11_12 h0 (fun _ => rfl) ra_1 dX11_taps_42 (fun ha_1 => ?_)
  refine z_iload_n dX11_taps_45 rfl rfl ?_
  obtain ⟨v_2, M_3, c_4, hf⟩ := z_call_some hf
  refine z_cVv (t_X10_take ha_1 c_4) kw_X10_take lk_X11_134 ha_1 rfl (by decide) rfl (Nat.le_of_ble_eq_true rfl) ⟨Nat.le_refl 0, Nat.le_refl 0⟩ dX11_taps_46 ?_
  refine z_aload_n dX11_taps_49 rfl rfl ?_
  obtain ⟨a_5, ra_5, hf⟩ := z_rd_some hf
  refine zgR fl_X11_12 h0 (fun _ => rfl) ra_5 dX11_taps_50 (fun ha_5 => ?_)
  refine z_iload_n dX11_taps_53 rfl rfl ?_
  obtain ⟨v_6, M_7, c_8, hf⟩ := z_call_some hf
  refine z_cSi (t_X9_read ha_5 c_8) kw_X9_read lk_X11_266 rfl (by decide) rfl (Nat.le_of_ble_eq_true rfl) ⟨Nat.le_refl 0, Nat.le_refl 0⟩ dX11_taps_54 ?_
  refine z_istore_n' (lv' := [(3, .int v_6), (0, .ref x0), (1, .int x1), (2, .int x2)]) rfl dX11_taps_57 (by decide) rfl rfl ?_
  refine z_aload_n dX11_taps_58 rfl rfl ?_
  obtain ⟨a_9, ra_9, hf⟩ := z_rd_some hf
  refine zgR fl_X11_12 h0 (fun _ => rfl) ra_9 dX11_taps_59 (fun ha_9 => ?_)
  obtain ⟨v_10, M_11, c_12, hf⟩ := z_call_some hf
  refine z_cVi (t_X10_isFaulty ha_9 c_12) kw_X10_isFaulty lk_X11_141 ha_9 rfl (by decide) rfl (Nat.le_of_ble_eq_true rfl) ⟨Nat.le_refl 0, Nat.le_refl 0⟩ dX11_taps_62 ?_
  refine z_if_eq (tgt := 78) dX11_taps_65 (by decide) (fun q_13 => ?_) (fun q_13 => ?_)
  · have hf := (if_pos q_13).symm.trans hf
    refine z_iload_n dX11_taps_78 rfl rfl ?_
    obtain ⟨rfl, rfl⟩ := z_end hf
    exact z_iret ⟨rfl, rfl, rfl⟩ (Or.inl rfl) dX11_taps_79
  · have hf := (if_neg q_13).symm.trans hf
    refine z_aload_n dX11_taps_68 rfl rfl ?_
    obtain ⟨a_14, ra_14, hf⟩ := z_rd_some hf
    refine zgR fl_X11_12 h0 (fun _ => rfl) ra_14 dX11_taps_69 (fun ha_14 => ?_)
    refine zgI fl_X11_144 ha_14 (fun _ => rfl) dX11_taps_72 ?_
    refine z_goto (tgt := 79) dX11_taps_75 (by decide) ?_
    obtain ⟨rfl, rfl⟩ := z_end hf
    exact z_iret ⟨rfl, rfl, rfl⟩ (Or.inl rfl) dX11_taps_79
noncomputable def f_X11_taps (x0 : Nat) (x1 : Int32) (x2 : Int32) (M : zM) : Option (Int32 × zM) :=
  z_call (f_X11_isWithin x1 1 60 M) fun v_1 M_2 => (if v_1 = 0 then some ((-1), M_2) else z_rd (M_2.2.1 x0 0) fun a_5 => z_call (f_X10_has a_5 x1 M_2) fun v_6 M_7 => (if v_6 = 0 then some ((-1), M_7) else (if x2 = 100 then (f_X11_taps_41 x0 x1 x2 M_7) else z_call (f_X11_isWithin x2 0 19 M_7) fun v_11 M_12 => (if v_11 = 0 then some ((-1), M_12) else (f_X11_taps_41 x0 x1 x2 M_12)))))
set_option maxHeartbeats 2000000 in
set_option maxRecDepth 20000 in
theorem t_X11_taps {l : Launch} {x0 : Nat} {x1 : Int32} {x2 : Int32} {M MO : zM} {v : Int32} (h0 : z_tm SH 10 x0) (hf : f_X11_taps x0 x1 x2 M = some (v, MO)) : zMet l yX11_taps cX11_taps 4 (some .int) 5 0 0 [.ref x0, .int x1, .int x2] SH M (zDi SH v MO) := by
  refine zMet.of (by decide +kernel) (Nat.le_of_ble_eq_true rfl) (Or.inr (Or.inl rfl)) ?_
  show zA l yX11_taps cX11_taps 4 (some .int) 5 0 0 SH.length (zDi SH v MO) 0 0 0 [(0, .ref x0), (1, .int x1), (2, .int x2)] [] SH M
  unfold f_X11_taps at hf
  refine z_iload_n dX11_taps_0 rfl rfl ?_
  refine z_iconst (v := 1) dX11_taps_1 (by decide) ?_
  refine z_bipush (v := 60) dX11_taps_2 (by decide) ?_
  obtain ⟨v_1, M_2, c_3, hf⟩ := z_call_some hf
  refine z_cSi (t_X11_isWithin  c_3) kw_X11_isWithin lk_X11_104 rfl (by decide) rfl (Nat.le_of_ble_eq_true rfl) ⟨Nat.le_refl 0, Nat.le_refl 0⟩ dX11_taps_4 ?_
  refine z_if_eq (tgt := 21) dX11_taps_7 (by decide) (fun q_4 => ?_) (fun q_4 => ?_)
  · have hf := (if_pos q_4).symm.trans hf
    refine z_iconst (v := (-1)) dX11_taps_21 (by decide) ?_
    obtain ⟨rfl, rfl⟩ := z_end hf
    exact z_iret ⟨rfl, rfl, rfl⟩ (Or.inl rfl) dX11_taps_22
  · have hf := (if_neg q_4).symm.trans hf
    refine z_aload_n dX11_taps_10 rfl rfl ?_
    obtain ⟨a_5, ra_5, hf⟩ := z_rd_some hf
    refine zgR fl_X11_12 h0 (fun _ => rfl) ra_5 dX11_taps_11 (fun ha_5 => ?_)
    refine z_iload_n dX11_taps_14 rfl rfl ?_
    obtain ⟨v_6, M_7, c_8, hf⟩ := z_call_some hf
    refine z_cVi (t_X10_has ha_5 c_8) kw_X10_has lk_X11_131 ha_5 rfl (by decide) rfl (Nat.le_of_ble_eq_true rfl) ⟨Nat.le_refl 0, Nat.le_refl 0⟩ dX11_taps_15 ?_
    refine z_if_ne (tgt := 23) dX11_taps_18 (by decide) (fun q_9 => ?_) (fun q_9 => ?_)
    · have hf := (if_neg q_9).symm.trans hf
      refine z_iload_n dX11_taps_23 rfl rfl ?_
      refine z_bipush (v := 100) dX11_taps_24 (by decide) ?_
      refine z_icmp_eq (tgt := 41) dX11_taps_26 (by decide) (fun q_10 => ?_) (fun q_10 => ?_)
      · have hf := (if_pos q_10).symm.trans hf
        exact t_X11_taps_41 h0 hf
      · have hf := (if_neg q_10).symm.trans hf
        refine z_iload_n dX11_taps_29 rfl rfl ?_
        refine z_iconst (v := 0) dX11_taps_30 (by decide) ?_
        refine z_bipush (v := 19) dX11_taps_31 (by decide) ?_
        obtain ⟨v_11, M_12, c_13, hf⟩ := z_call_some hf
        refine z_cSi (t_X11_isWithin  c_13) kw_X11_isWithin lk_X11_104 rfl (by decide) rfl (Nat.le_of_ble_eq_true rfl) ⟨Nat.le_refl 0, Nat.le_refl 0⟩ dX11_taps_33 ?_
        refine z_if_ne (tgt := 41) dX11_taps_36 (by decide) (fun q_14 => ?_) (fun q_14 => ?_)
        · have hf := (if_neg q_14).symm.trans hf
          exact t_X11_taps_41 h0 hf
        · have hf := (if_pos q_14).symm.trans hf
          refine z_iconst (v := (-1)) dX11_taps_39 (by decide) ?_
          obtain ⟨rfl, rfl⟩ := z_end hf
          exact z_iret ⟨rfl, rfl, rfl⟩ (Or.inl rfl) dX11_taps_40
    · have hf := (if_pos q_9).symm.trans hf
      refine z_iconst (v := (-1)) dX11_taps_21 (by decide) ?_
      obtain ⟨rfl, rfl⟩ := z_end hf
      exact z_iret ⟨rfl, rfl, rfl⟩ (Or.inl rfl) dX11_taps_22
noncomputable def f_X11_tapped (x0 : Nat) (x1 : Int32) (M : zM) : Option (Int32 × zM) :=
  z_call (f_X11_isWithin x1 1 40 M) fun v_1 M_2 => (if v_1 = 0 then some ((-1), M_2) else z_rd (M_2.2.1 x0 0) fun a_5 => z_call (f_X10_has a_5 x1 M_2) fun v_6 M_7 => (if v_6 = 0 then some ((-1), M_7) else z_rd (M_7.2.1 x0 0) fun a_10 => z_call (f_X10_take a_10 x1 M_7) fun v_11 M_12 => z_rd (M_12.2.1 x0 0) fun a_14 => z_call (f_X9_lengthOf a_14 M_12) fun v_15 M_16 => z_rd (M_16.2.1 x0 0) fun a_18 => z_call (f_X10_isFaulty a_18 M_16) fun v_19 M_20 => (if v_19 = 0 then some (v_15, M_20) else z_rd (M_20.2.1 x0 0) fun a_23 => some ((M_20.1 a_23 4), M_20))))
set_option maxHeartbeats 2000000 in
set_option maxRecDepth 20000 in
theorem t_X11_tapped {l : Launch} {x0 : Nat} {x1 : Int32} {M MO : zM} {v : Int32} (h0 : z_tm SH 10 x0) (hf : f_X11_tapped x0 x1 M = some (v, MO)) : zMet l yX11_tapped cX11_tapped 3 (some .int) 3 0 0 [.ref x0, .int x1] SH M (zDi SH v MO) := by
  refine zMet.of (by decide +kernel) (Nat.le_of_ble_eq_true rfl) (Or.inr (Or.inl rfl)) ?_
  show zA l yX11_tapped cX11_tapped 3 (some .int) 3 0 0 SH.length (zDi SH v MO) 0 0 0 [(0, .ref x0), (1, .int x1)] [] SH M
  unfold f_X11_tapped at hf
  refine z_iload_n dX11_tapped_0 rfl rfl ?_
  refine z_iconst (v := 1) dX11_tapped_1 (by decide) ?_
  refine z_bipush (v := 40) dX11_tapped_2 (by decide) ?_
  obtain ⟨v_1, M_2, c_3, hf⟩ := z_call_some hf
  refine z_cSi (t_X11_isWithin  c_3) kw_X11_isWithin lk_X11_104 rfl (by decide) rfl (Nat.le_of_ble_eq_true rfl) ⟨Nat.le_refl 0, Nat.le_refl 0⟩ dX11_tapped_4 ?_
  refine z_if_eq (tgt := 21) dX11_tapped_7 (by decide) (fun q_4 => ?_) (fun q_4 => ?_)
  · have hf := (if_pos q_4).symm.trans hf
    refine z_iconst (v := (-1)) dX11_tapped_21 (by decide) ?_
    obtain ⟨rfl, rfl⟩ := z_end hf
    exact z_iret ⟨rfl, rfl, rfl⟩ (Or.inl rfl) dX11_tapped_22
  · have hf := (if_neg q_4).symm.trans hf
    refine z_aload_n dX11_tapped_10 rfl rfl ?_
    obtain ⟨a_5, ra_5, hf⟩ := z_rd_some hf
    refine zgR fl_X11_12 h0 (fun _ => rfl) ra_5 dX11_tapped_11 (fun ha_5 => ?_)
    refine z_iload_n dX11_tapped_14 rfl rfl ?_
    obtain ⟨v_6, M_7, c_8, hf⟩ := z_call_some hf
    refine z_cVi (t_X10_has ha_5 c_8) kw_X10_has lk_X11_131 ha_5 rfl (by decide) rfl (Nat.le_of_ble_eq_true rfl) ⟨Nat.le_refl 0, Nat.le_refl 0⟩ dX11_tapped_15 ?_
    refine z_if_ne (tgt := 23) dX11_tapped_18 (by decide) (fun q_9 => ?_) (fun q_9 => ?_)
    · have hf := (if_neg q_9).symm.trans hf
      refine z_aload_n dX11_tapped_23 rfl rfl ?_
      obtain ⟨a_10, ra_10, hf⟩ := z_rd_some hf
      refine zgR fl_X11_12 h0 (fun _ => rfl) ra_10 dX11_tapped_24 (fun ha_10 => ?_)
      refine z_iload_n dX11_tapped_27 rfl rfl ?_
      obtain ⟨v_11, M_12, c_13, hf⟩ := z_call_some hf
      refine z_cVv (t_X10_take ha_10 c_13) kw_X10_take lk_X11_134 ha_10 rfl (by decide) rfl (Nat.le_of_ble_eq_true rfl) ⟨Nat.le_refl 0, Nat.le_refl 0⟩ dX11_tapped_28 ?_
      refine z_aload_n dX11_tapped_31 rfl rfl ?_
      obtain ⟨a_14, ra_14, hf⟩ := z_rd_some hf
      refine zgR fl_X11_12 h0 (fun _ => rfl) ra_14 dX11_tapped_32 (fun ha_14 => ?_)
      obtain ⟨v_15, M_16, c_17, hf⟩ := z_call_some hf
      refine z_cSi (t_X9_lengthOf ha_14 c_17) kw_X9_lengthOf lk_X11_271 rfl (by decide) rfl (Nat.le_of_ble_eq_true rfl) ⟨Nat.le_refl 0, Nat.le_refl 0⟩ dX11_tapped_35 ?_
      refine z_istore_n' (lv' := [(2, .int v_15), (0, .ref x0), (1, .int x1)]) rfl dX11_tapped_38 (by decide) rfl rfl ?_
      refine z_aload_n dX11_tapped_39 rfl rfl ?_
      obtain ⟨a_18, ra_18, hf⟩ := z_rd_some hf
      refine zgR fl_X11_12 h0 (fun _ => rfl) ra_18 dX11_tapped_40 (fun ha_18 => ?_)
      obtain ⟨v_19, M_20, c_21, hf⟩ := z_call_some hf
      refine z_cVi (t_X10_isFaulty ha_18 c_21) kw_X10_isFaulty lk_X11_141 ha_18 rfl (by decide) rfl (Nat.le_of_ble_eq_true rfl) ⟨Nat.le_refl 0, Nat.le_refl 0⟩ dX11_tapped_43 ?_
      refine z_if_eq (tgt := 59) dX11_tapped_46 (by decide) (fun q_22 => ?_) (fun q_22 => ?_)
      · have hf := (if_pos q_22).symm.trans hf
        refine z_iload_n dX11_tapped_59 rfl rfl ?_
        obtain ⟨rfl, rfl⟩ := z_end hf
        exact z_iret ⟨rfl, rfl, rfl⟩ (Or.inl rfl) dX11_tapped_60
      · have hf := (if_neg q_22).symm.trans hf
        refine z_aload_n dX11_tapped_49 rfl rfl ?_
        obtain ⟨a_23, ra_23, hf⟩ := z_rd_some hf
        refine zgR fl_X11_12 h0 (fun _ => rfl) ra_23 dX11_tapped_50 (fun ha_23 => ?_)
        refine zgI fl_X11_144 ha_23 (fun _ => rfl) dX11_tapped_53 ?_
        refine z_goto (tgt := 60) dX11_tapped_56 (by decide) ?_
        obtain ⟨rfl, rfl⟩ := z_end hf
        exact z_iret ⟨rfl, rfl, rfl⟩ (Or.inl rfl) dX11_tapped_60
    · have hf := (if_pos q_9).symm.trans hf
      refine z_iconst (v := (-1)) dX11_tapped_21 (by decide) ?_
      obtain ⟨rfl, rfl⟩ := z_end hf
      exact z_iret ⟨rfl, rfl, rfl⟩ (Or.inl rfl) dX11_tapped_22
noncomputable def f_X11_linen_59 (x0 : Nat) (x1 : Int32) (x2 : Int32) (x3 : Int32) (M : zM) : Option (Int32 × zM) :=
  z_rd (M.2.1 x0 0) fun a_1 => z_call (f_X10_take a_1 x1 M) fun v_2 M_3 => z_rd (M_3.2.1 x0 10) fun a_5 => z_rd (M_3.2.1 x0 0) fun a_6 => z_call (f_X3_learn a_5 a_6 x1 M_3) fun v_7 M_8 => (if v_7 = 0 then some ((-2), M_8) else (if x3 = 100 then z_rd (M_8.2.1 x0 10) fun a_21 => z_call (f_X3_weeksTillHome a_21 M_8) fun v_22 M_23 => some (v_22, M_23) else (if x3 = 101 then z_rd (M_8.2.1 x0 10) fun a_17 => z_call (f_X3_rounds a_17 M_8) fun v_18 M_19 => some (v_18, M_19) else z_rd (M_8.2.1 x0 10) fun a_13 => z_call (f_X3_placeOf a_13 x3 x2 M_8) fun v_14 M_15 => some (v_14, M_15))))
set_option maxHeartbeats 2000000 in
set_option maxRecDepth 20000 in
theorem t_X11_linen_59 {l : Launch} {x0 : Nat} {x1 : Int32} {x2 : Int32} {x3 : Int32} {M MO : zM} {v : Int32} (h0 : z_tm SH 10 x0) (hf : f_X11_linen_59 x0 x1 x2 x3 M = some (v, MO)) : zA l yX11_linen cX11_linen 4 (some .int) 3 0 0 SH.length (zDi SH v MO) 0 0 59 [(0, .ref x0), (1, .int x1), (2, .int x2), (3, .int x3)] [] SH M := by
  unfold f_X11_linen_59 at hf
  refine z_aload_n dX11_linen_59 rfl rfl ?_
  obtain ⟨a_1, ra_1, hf⟩ := z_rd_some hf
  refine zgR fl_X11_12 h0 (fun _ => rfl) ra_1 dX11_linen_60 (fun ha_1 => ?_)
  refine z_iload_n dX11_linen_63 rfl rfl ?_
  obtain ⟨v_2, M_3, c_4, hf⟩ := z_call_some hf
  refine z_cVv (t_X10_take ha_1 c_4) kw_X10_take lk_X11_134 ha_1 rfl (by decide) rfl (Nat.le_of_ble_eq_true rfl) ⟨Nat.le_refl 0, Nat.le_refl 0⟩ dX11_linen_64 ?_
  refine z_aload_n dX11_linen_67 rfl rfl ?_
  obtain ⟨a_5, ra_5, hf⟩ := z_rd_some hf
  refine zgR fl_X11_92 h0 (fun _ => rfl) ra_5 dX11_linen_68 (fun ha_5 => ?_)
  refine z_aload_n dX11_linen_71 rfl rfl ?_
  obtain ⟨a_6, ra_6, hf⟩ := z_rd_some hf
  refine zgR fl_X11_12 h0 (fun _ => rfl) ra_6 dX11_linen_72 (fun ha_6 => ?_)
  refine z_iload_n dX11_linen_75 rfl rfl ?_
  obtain ⟨v_7, M_8, c_9, hf⟩ := z_call_some hf
  refine z_cVi (t_X3_learn ha_5 ha_6 c_9) kw_X3_learn lk_X11_276 ha_5 rfl (by decide) rfl (Nat.le_of_ble_eq_true rfl) ⟨Nat.le_refl 0, Nat.le_refl 0⟩ dX11_linen_76 ?_
  refine z_if_ne (tgt := 85) dX11_linen_79 (by decide) (fun q_10 => ?_) (fun q_10 => ?_)
  · have hf := (if_neg q_10).symm.trans hf
    refine z_iload_n dX11_linen_85 rfl rfl ?_
    refine z_bipush (v := 100) dX11_linen_86 (by decide) ?_
    refine z_icmp_ne (tgt := 99) dX11_linen_88 (by decide) (fun q_11 => ?_) (fun q_11 => ?_)
    · have hf := (if_neg q_11).symm.trans hf
      refine z_iload_n dX11_linen_99 rfl rfl ?_
      refine z_bipush (v := 101) dX11_linen_100 (by decide) ?_
      refine z_icmp_ne (tgt := 115) dX11_linen_102 (by decide) (fun q_12 => ?_) (fun q_12 => ?_)
      · have hf := (if_neg q_12).symm.trans hf
        refine z_aload_n dX11_linen_115 rfl rfl ?_
        obtain ⟨a_13, ra_13, hf⟩ := z_rd_some hf
        refine zgR fl_X11_92 h0 (fun _ => rfl) ra_13 dX11_linen_116 (fun ha_13 => ?_)
        refine z_iload_n dX11_linen_119 rfl rfl ?_
        refine z_iload_n dX11_linen_120 rfl rfl ?_
        obtain ⟨v_14, M_15, c_16, hf⟩ := z_call_some hf
        refine z_cVi (t_X3_placeOf ha_13 c_16) kw_X3_placeOf lk_X11_286 ha_13 rfl (by decide) rfl (Nat.le_of_ble_eq_true rfl) ⟨Nat.le_refl 0, Nat.le_refl 0⟩ dX11_linen_121 ?_
        obtain ⟨rfl, rfl⟩ := z_end hf
        exact z_iret ⟨rfl, rfl, rfl⟩ (Or.inl rfl) dX11_linen_124
      · have hf := (if_pos q_12).symm.trans hf
        refine z_aload_n dX11_linen_105 rfl rfl ?_
        obtain ⟨a_17, ra_17, hf⟩ := z_rd_some hf
        refine zgR fl_X11_92 h0 (fun _ => rfl) ra_17 dX11_linen_106 (fun ha_17 => ?_)
        obtain ⟨v_18, M_19, c_20, hf⟩ := z_call_some hf
        refine z_cVi (t_X3_rounds ha_17 c_20) kw_X3_rounds lk_X11_283 ha_17 rfl (by decide) rfl (Nat.le_of_ble_eq_true rfl) ⟨Nat.le_refl 0, Nat.le_refl 0⟩ dX11_linen_109 ?_
        refine z_goto (tgt := 124) dX11_linen_112 (by decide) ?_
        obtain ⟨rfl, rfl⟩ := z_end hf
        exact z_iret ⟨rfl, rfl, rfl⟩ (Or.inl rfl) dX11_linen_124
    · have hf := (if_pos q_11).symm.trans hf
      refine z_aload_n dX11_linen_91 rfl rfl ?_
      obtain ⟨a_21, ra_21, hf⟩ := z_rd_some hf
      refine zgR fl_X11_92 h0 (fun _ => rfl) ra_21 dX11_linen_92 (fun ha_21 => ?_)
      obtain ⟨v_22, M_23, c_24, hf⟩ := z_call_some hf
      refine z_cVi (t_X3_weeksTillHome ha_21 c_24) kw_X3_weeksTillHome lk_X11_280 ha_21 rfl (by decide) rfl (Nat.le_of_ble_eq_true rfl) ⟨Nat.le_refl 0, Nat.le_refl 0⟩ dX11_linen_95 ?_
      obtain ⟨rfl, rfl⟩ := z_end hf
      exact z_iret ⟨rfl, rfl, rfl⟩ (Or.inl rfl) dX11_linen_98
  · have hf := (if_pos q_10).symm.trans hf
    refine z_bipush (v := (-2)) dX11_linen_82 (by decide) ?_
    obtain ⟨rfl, rfl⟩ := z_end hf
    exact z_iret ⟨rfl, rfl, rfl⟩ (Or.inl rfl) dX11_linen_84
noncomputable def f_X11_linen (x0 : Nat) (x1 : Int32) (x2 : Int32) (x3 : Int32) (M : zM) : Option (Int32 × zM) :=
  z_call (f_X11_isWithin x1 1 24 M) fun v_1 M_2 => (if v_1 = 0 then some ((-1), M_2) else z_call (f_X11_isWithin x2 0 1000000 M_2) fun v_5 M_6 => (if v_5 = 0 then some ((-1), M_6) else z_rd (M_6.2.1 x0 0) fun a_9 => z_call (f_X10_has a_9 x1 M_6) fun v_10 M_11 => (if v_10 = 0 then some ((-1), M_11) else (if x3 = 100 then (f_X11_linen_59 x0 x1 x2 x3 M_11) else (if x3 = 101 then (f_X11_linen_59 x0 x1 x2 x3 M_11) else z_call (f_X11_isWithin x3 0 (x1 - 1) M_11) fun v_16 M_17 => (if v_16 = 0 then some ((-1), M_17) else (f_X11_linen_59 x0 x1 x2 x3 M_17)))))))
set_option maxHeartbeats 2000000 in
set_option maxRecDepth 20000 in
theorem t_X11_linen {l : Launch} {x0 : Nat} {x1 : Int32} {x2 : Int32} {x3 : Int32} {M MO : zM} {v : Int32} (h0 : z_tm SH 10 x0) (hf : f_X11_linen x0 x1 x2 x3 M = some (v, MO)) : zMet l yX11_linen cX11_linen 4 (some .int) 3 0 0 [.ref x0, .int x1, .int x2, .int x3] SH M (zDi SH v MO) := by
  refine zMet.of (by decide +kernel) (Nat.le_of_ble_eq_true rfl) (Or.inr (Or.inl rfl)) ?_
  show zA l yX11_linen cX11_linen 4 (some .int) 3 0 0 SH.length (zDi SH v MO) 0 0 0 [(0, .ref x0), (1, .int x1), (2, .int x2), (3, .int x3)] [] SH M
  unfold f_X11_linen at hf
  refine z_iload_n dX11_linen_0 rfl rfl ?_
  refine z_iconst (v := 1) dX11_linen_1 (by decide) ?_
  refine z_bipush (v := 24) dX11_linen_2 (by decide) ?_
  obtain ⟨v_1, M_2, c_3, hf⟩ := z_call_some hf
  refine z_cSi (t_X11_isWithin  c_3) kw_X11_isWithin lk_X11_104 rfl (by decide) rfl (Nat.le_of_ble_eq_true rfl) ⟨Nat.le_refl 0, Nat.le_refl 0⟩ dX11_linen_4 ?_
  refine z_if_eq (tgt := 32) dX11_linen_7 (by decide) (fun q_4 => ?_) (fun q_4 => ?_)
  · have hf := (if_pos q_4).symm.trans hf
    refine z_iconst (v := (-1)) dX11_linen_32 (by decide) ?_
    obtain ⟨rfl, rfl⟩ := z_end hf
    exact z_iret ⟨rfl, rfl, rfl⟩ (Or.inl rfl) dX11_linen_33
  · have hf := (if_neg q_4).symm.trans hf
    refine z_iload_n dX11_linen_10 rfl rfl ?_
    refine z_iconst (v := 0) dX11_linen_11 (by decide) ?_
    refine z_ldcw (v := 1000000) dX11_linen_12 cn_X11_275 ?_
    obtain ⟨v_5, M_6, c_7, hf⟩ := z_call_some hf
    refine z_cSi (t_X11_isWithin  c_7) kw_X11_isWithin lk_X11_104 rfl (by decide) rfl (Nat.le_of_ble_eq_true rfl) ⟨Nat.le_refl 0, Nat.le_refl 0⟩ dX11_linen_15 ?_
    refine z_if_eq (tgt := 32) dX11_linen_18 (by decide) (fun q_8 => ?_) (fun q_8 => ?_)
    · have hf := (if_pos q_8).symm.trans hf
      refine z_iconst (v := (-1)) dX11_linen_32 (by decide) ?_
      obtain ⟨rfl, rfl⟩ := z_end hf
      exact z_iret ⟨rfl, rfl, rfl⟩ (Or.inl rfl) dX11_linen_33
    · have hf := (if_neg q_8).symm.trans hf
      refine z_aload_n dX11_linen_21 rfl rfl ?_
      obtain ⟨a_9, ra_9, hf⟩ := z_rd_some hf
      refine zgR fl_X11_12 h0 (fun _ => rfl) ra_9 dX11_linen_22 (fun ha_9 => ?_)
      refine z_iload_n dX11_linen_25 rfl rfl ?_
      obtain ⟨v_10, M_11, c_12, hf⟩ := z_call_some hf
      refine z_cVi (t_X10_has ha_9 c_12) kw_X10_has lk_X11_131 ha_9 rfl (by decide) rfl (Nat.le_of_ble_eq_true rfl) ⟨Nat.le_refl 0, Nat.le_refl 0⟩ dX11_linen_26 ?_
      refine z_if_ne (tgt := 34) dX11_linen_29 (by decide) (fun q_13 => ?_) (fun q_13 => ?_)
      · have hf := (if_neg q_13).symm.trans hf
        refine z_iload_n dX11_linen_34 rfl rfl ?_
        refine z_bipush (v := 100) dX11_linen_35 (by decide) ?_
        refine z_icmp_eq (tgt := 59) dX11_linen_37 (by decide) (fun q_14 => ?_) (fun q_14 => ?_)
        · have hf := (if_pos q_14).symm.trans hf
          exact t_X11_linen_59 h0 hf
        · have hf := (if_neg q_14).symm.trans hf
          refine z_iload_n dX11_linen_40 rfl rfl ?_
          refine z_bipush (v := 101) dX11_linen_41 (by decide) ?_
          refine z_icmp_eq (tgt := 59) dX11_linen_43 (by decide) (fun q_15 => ?_) (fun q_15 => ?_)
          · have hf := (if_pos q_15).symm.trans hf
            exact t_X11_linen_59 h0 hf
          · have hf := (if_neg q_15).symm.trans hf
            refine z_iload_n dX11_linen_46 rfl rfl ?_
            refine z_iconst (v := 0) dX11_linen_47 (by decide) ?_
            refine z_iload_n dX11_linen_48 rfl rfl ?_
            refine z_iconst (v := 1) dX11_linen_49 (by decide) ?_
            refine z_isub dX11_linen_50 ?_
            obtain ⟨v_16, M_17, c_18, hf⟩ := z_call_some hf
            refine z_cSi (t_X11_isWithin  c_18) kw_X11_isWithin lk_X11_104 rfl (by decide) rfl (Nat.le_of_ble_eq_true rfl) ⟨Nat.le_refl 0, Nat.le_refl 0⟩ dX11_linen_51 ?_
            refine z_if_ne (tgt := 59) dX11_linen_54 (by decide) (fun q_19 => ?_) (fun q_19 => ?_)
            · have hf := (if_neg q_19).symm.trans hf
              exact t_X11_linen_59 h0 hf
            · have hf := (if_pos q_19).symm.trans hf
              refine z_iconst (v := (-1)) dX11_linen_57 (by decide) ?_
              obtain ⟨rfl, rfl⟩ := z_end hf
              exact z_iret ⟨rfl, rfl, rfl⟩ (Or.inl rfl) dX11_linen_58
      · have hf := (if_pos q_13).symm.trans hf
        refine z_iconst (v := (-1)) dX11_linen_32 (by decide) ?_
        obtain ⟨rfl, rfl⟩ := z_end hf
        exact z_iret ⟨rfl, rfl, rfl⟩ (Or.inl rfl) dX11_linen_33
noncomputable def f_X11_guestWhoFeelsLeast_49 (x0 : Nat) (k5 : Int32 → Int32 → zM → Option (Int32 × zM)) (x1 : Int32) (x2 : Int32) (M : zM) : Option (Int32 × zM) :=
  zl (x2 + 1) fun x2_1 => (k5 x1 x2_1 M)
set_option maxHeartbeats 2000000 in
set_option maxRecDepth 20000 in
theorem t_X11_guestWhoFeelsLeast_49 {l : Launch} {x0 : Nat} {k5 : Int32 → Int32 → zM → Option (Int32 × zM)} {x1 : Int32} {x2 : Int32} {M MO : zM} {v : Int32} (h0 : z_tm SH 10 x0) (hk5 : ∀ (x1 : Int32) (x2 : Int32) (M : zM), k5 x1 x2 M = some (v, MO) → zA l yX11_guestWhoFeelsLeast cX11_guestWhoFeelsLeast 3 (some .int) 3 0 0 SH.length (zDi SH v MO) 0 0 5 [(0, .ref x0), (1, .int x1), (2, .int x2)] [] SH M) (hf : f_X11_guestWhoFeelsLeast_49 x0 k5 x1 x2 M = some (v, MO)) : zA l yX11_guestWhoFeelsLeast cX11_guestWhoFeelsLeast 3 (some .int) 3 0 0 SH.length (zDi SH v MO) 0 0 49 [(0, .ref x0), (1, .int x1), (2, .int x2)] [] SH M := by
  unfold f_X11_guestWhoFeelsLeast_49 at hf
  obtain ⟨x2_1, ex2_1, hf⟩ := zl_some hf
  refine z_iinc' (lv' := [(2, .int x2_1), (0, .ref x0), (1, .int x1)]) dX11_guestWhoFeelsLeast_49 rfl (by decide) ex2_1 (by decide) rfl ?_
  refine z_goto (tgt := 5) dX11_guestWhoFeelsLeast_52 (by decide) ?_
  refine zA.pick [(0, .ref x0), (1, .int x1), (2, .int x2_1)] [1, 2, 0] rfl ?_
  exact hk5 x1 x2_1 M hf
noncomputable def f_X11_guestWhoFeelsLeast_47 (x0 : Nat) (k5 : Int32 → Int32 → zM → Option (Int32 × zM)) (x2 : Int32) (M : zM) : Option (Int32 × zM) :=
  (f_X11_guestWhoFeelsLeast_49 x0 k5 x2 x2 M)
set_option maxHeartbeats 2000000 in
set_option maxRecDepth 20000 in
theorem t_X11_guestWhoFeelsLeast_47 {l : Launch} {x0 : Nat} {k5 : Int32 → Int32 → zM → Option (Int32 × zM)} {x2 : Int32} {M MO : zM} {v : Int32} (h0 : z_tm SH 10 x0) (hk5 : ∀ (x1 : Int32) (x2 : Int32) (M : zM), k5 x1 x2 M = some (v, MO) → zA l yX11_guestWhoFeelsLeast cX11_guestWhoFeelsLeast 3 (some .int) 3 0 0 SH.length (zDi SH v MO) 0 0 5 [(0, .ref x0), (1, .int x1), (2, .int x2)] [] SH M) (hf : f_X11_guestWhoFeelsLeast_47 x0 k5 x2 M = some (v, MO)) : zA l yX11_guestWhoFeelsLeast cX11_guestWhoFeelsLeast 3 (some .int) 3 0 0 SH.length (zDi SH v MO) 0 0 47 [(0, .ref x0), (2, .int x2)] [] SH M := by
  unfold f_X11_guestWhoFeelsLeast_47 at hf
  refine z_iload_n dX11_guestWhoFeelsLeast_47 rfl rfl ?_
  refine z_istore_n' (lv' := [(1, .int x2), (0, .ref x0), (2, .int x2)]) rfl dX11_guestWhoFeelsLeast_48 (by decide) rfl rfl ?_
  refine zA.pick [(0, .ref x0), (1, .int x2), (2, .int x2)] [1, 0, 2] rfl ?_
  exact t_X11_guestWhoFeelsLeast_49 h0 hk5 hf
noncomputable def f_X11_guestWhoFeelsLeast_5 (x0 : Nat) : Nat → Int32 → Int32 → zM → Option (Int32 × zM)
  | 0, _, _, _ => none
  | n + 1, x1, x2, M =>
    (if 24 ≤ x2 then some (x1, M) else z_rd (M.2.1 x0 1) fun a_2 => z_call (f_X8_hasGuest a_2 x2 M) fun v_3 M_4 => (if v_3 = 0 then (f_X11_guestWhoFeelsLeast_49 x0 (f_X11_guestWhoFeelsLeast_5 x0 n) x1 x2 M_4) else (if x1 < 0 then (f_X11_guestWhoFeelsLeast_47 x0 (f_X11_guestWhoFeelsLeast_5 x0 n) x2 M_4) else z_rd (M_4.2.1 x0 1) fun a_8 => z_rd (M_4.2.1 a_8 4) fun a_9 => if z_ix x2 (z_ln SH a_9) = true then z_rd (M_4.2.1 x0 1) fun a_11 => z_rd (M_4.2.1 a_11 4) fun a_12 => if z_ix x1 (z_ln SH a_12) = true then (if (M_4.1 a_12 (x1 : Int32).toNatClampNeg) ≤ (M_4.1 a_9 (x2 : Int32).toNatClampNeg) then (f_X11_guestWhoFeelsLeast_49 x0 (f_X11_guestWhoFeelsLeast_5 x0 n) x1 x2 M_4) else (f_X11_guestWhoFeelsLeast_47 x0 (f_X11_guestWhoFeelsLeast_5 x0 n) x2 M_4)) else none else none)))
set_option maxHeartbeats 2000000 in
set_option maxRecDepth 20000 in
theorem t_X11_guestWhoFeelsLeast_5 {l : Launch} {x0 : Nat} {MO : zM} {v : Int32} (h0 : z_tm SH 10 x0) : ∀ (n : Nat) (x1 : Int32) (x2 : Int32) (M : zM), f_X11_guestWhoFeelsLeast_5 x0 n x1 x2 M = some (v, MO) → zA l yX11_guestWhoFeelsLeast cX11_guestWhoFeelsLeast 3 (some .int) 3 0 0 SH.length (zDi SH v MO) 0 0 5 [(0, .ref x0), (1, .int x1), (2, .int x2)] [] SH M := by
  intro n
  induction n with
  | zero =>
    intro x1 x2 M hf
    rw [f_X11_guestWhoFeelsLeast_5] at hf
    cases hf
  | succ n ih =>
    intro x1 x2 M hf
    rw [f_X11_guestWhoFeelsLeast_5] at hf
    refine z_iload_n dX11_guestWhoFeelsLeast_5 rfl rfl ?_
    refine z_bipush (v := 24) dX11_guestWhoFeelsLeast_6 (by decide) ?_
    refine z_icmp_ge (tgt := 55) dX11_guestWhoFeelsLeast_8 (by decide) (fun q_1 => ?_) (fun q_1 => ?_)
    · have hf := (if_pos q_1).symm.trans hf
      refine z_iload_n dX11_guestWhoFeelsLeast_55 rfl rfl ?_
      obtain ⟨rfl, rfl⟩ := z_end hf
      exact z_iret ⟨rfl, rfl, rfl⟩ (Or.inl rfl) dX11_guestWhoFeelsLeast_56
    · have hf := (if_neg q_1).symm.trans hf
      refine z_aload_n dX11_guestWhoFeelsLeast_11 rfl rfl ?_
      obtain ⟨a_2, ra_2, hf⟩ := z_rd_some hf
      refine zgR fl_X11_19 h0 (fun _ => rfl) ra_2 dX11_guestWhoFeelsLeast_12 (fun ha_2 => ?_)
      refine z_iload_n dX11_guestWhoFeelsLeast_15 rfl rfl ?_
      obtain ⟨v_3, M_4, c_5, hf⟩ := z_call_some hf
      refine z_cVi (t_X8_hasGuest ha_2 c_5) kw_X8_hasGuest lk_X11_180 ha_2 rfl (by decide) rfl (Nat.le_of_ble_eq_true rfl) ⟨Nat.le_refl 0, Nat.le_refl 0⟩ dX11_guestWhoFeelsLeast_16 ?_
      refine z_if_eq (tgt := 49) dX11_guestWhoFeelsLeast_19 (by decide) (fun q_6 => ?_) (fun q_6 => ?_)
      · have hf := (if_pos q_6).symm.trans hf
        exact t_X11_guestWhoFeelsLeast_49 h0 ih hf
      · have hf := (if_neg q_6).symm.trans hf
        refine z_iload_n dX11_guestWhoFeelsLeast_22 rfl rfl ?_
        refine z_if_lt (tgt := 47) dX11_guestWhoFeelsLeast_23 (by decide) (fun q_7 => ?_) (fun q_7 => ?_)
        · have hf := (if_pos q_7).symm.trans hf
          refine zA.pick [(0, .ref x0), (2, .int x2)] [0, 2] rfl ?_
          exact t_X11_guestWhoFeelsLeast_47 h0 ih hf
        · have hf := (if_neg q_7).symm.trans hf
          refine z_aload_n dX11_guestWhoFeelsLeast_26 rfl rfl ?_
          obtain ⟨a_8, ra_8, hf⟩ := z_rd_some hf
          refine zgR fl_X11_19 h0 (fun _ => rfl) ra_8 dX11_guestWhoFeelsLeast_27 (fun ha_8 => ?_)
          obtain ⟨a_9, ra_9, hf⟩ := z_rd_some hf
          refine zgR fl_X11_177 ha_8 (fun _ => rfl) ra_9 dX11_guestWhoFeelsLeast_30 (fun ha_9 => ?_)
          refine z_iload_n dX11_guestWhoFeelsLeast_33 rfl rfl ?_
          obtain ⟨g_10, hf⟩ := z_ifs hf
          refine z_iald ha_9 g_10 rfl dX11_guestWhoFeelsLeast_34 ?_
          refine z_aload_n dX11_guestWhoFeelsLeast_35 rfl rfl ?_
          obtain ⟨a_11, ra_11, hf⟩ := z_rd_some hf
          refine zgR fl_X11_19 h0 (fun _ => rfl) ra_11 dX11_guestWhoFeelsLeast_36 (fun ha_11 => ?_)
          obtain ⟨a_12, ra_12, hf⟩ := z_rd_some hf
          refine zgR fl_X11_177 ha_11 (fun _ => rfl) ra_12 dX11_guestWhoFeelsLeast_39 (fun ha_12 => ?_)
          refine z_iload_n dX11_guestWhoFeelsLeast_42 rfl rfl ?_
          obtain ⟨g_13, hf⟩ := z_ifs hf
          refine z_iald ha_12 g_13 rfl dX11_guestWhoFeelsLeast_43 ?_
          refine z_icmp_ge (tgt := 49) dX11_guestWhoFeelsLeast_44 (by decide) (fun q_14 => ?_) (fun q_14 => ?_)
          · have hf := (if_pos q_14).symm.trans hf
            exact t_X11_guestWhoFeelsLeast_49 h0 ih hf
          · have hf := (if_neg q_14).symm.trans hf
            refine zA.pick [(0, .ref x0), (2, .int x2)] [0, 2] rfl ?_
            exact t_X11_guestWhoFeelsLeast_47 h0 ih hf
noncomputable def f_X11_guestWhoFeelsLeast (x0 : Nat) (M : zM) : Option (Int32 × zM) :=
  (f_X11_guestWhoFeelsLeast_5 x0 zF (-2) 0 M)
set_option maxHeartbeats 2000000 in
set_option maxRecDepth 20000 in
theorem t_X11_guestWhoFeelsLeast {l : Launch} {x0 : Nat} {M MO : zM} {v : Int32} (h0 : z_tm SH 10 x0) (hf : f_X11_guestWhoFeelsLeast x0 M = some (v, MO)) : zMet l yX11_guestWhoFeelsLeast cX11_guestWhoFeelsLeast 3 (some .int) 3 0 0 [.ref x0] SH M (zDi SH v MO) := by
  refine zMet.of (by decide +kernel) (Nat.le_of_ble_eq_true rfl) (Or.inr (Or.inl rfl)) ?_
  show zA l yX11_guestWhoFeelsLeast cX11_guestWhoFeelsLeast 3 (some .int) 3 0 0 SH.length (zDi SH v MO) 0 0 0 [(0, .ref x0)] [] SH M
  unfold f_X11_guestWhoFeelsLeast at hf
  refine z_bipush (v := (-2)) dX11_guestWhoFeelsLeast_0 (by decide) ?_
  refine z_istore_n' (lv' := [(1, .int (-2)), (0, .ref x0)]) rfl dX11_guestWhoFeelsLeast_2 (by decide) rfl rfl ?_
  refine z_iconst (v := 0) dX11_guestWhoFeelsLeast_3 (by decide) ?_
  refine z_istore_n' (lv' := [(2, .int 0), (1, .int (-2)), (0, .ref x0)]) rfl dX11_guestWhoFeelsLeast_4 (by decide) rfl rfl ?_
  refine zA.pick [(0, .ref x0), (1, .int (-2)), (2, .int 0)] [2, 1, 0] rfl ?_
  exact t_X11_guestWhoFeelsLeast_5 h0 zF (-2) 0 M hf
noncomputable def f_X11_guestsWhoFeelLessThan_37 (x0 : Nat) (x1 : Int32) (k4 : Int32 → Int32 → zM → Option (Int32 × zM)) (x2 : Int32) (x3 : Int32) (M : zM) : Option (Int32 × zM) :=
  zl (x3 + 1) fun x3_1 => (k4 x2 x3_1 M)
set_option maxHeartbeats 2000000 in
set_option maxRecDepth 20000 in
theorem t_X11_guestsWhoFeelLessThan_37 {l : Launch} {x0 : Nat} {x1 : Int32} {k4 : Int32 → Int32 → zM → Option (Int32 × zM)} {x2 : Int32} {x3 : Int32} {M MO : zM} {v : Int32} (h0 : z_tm SH 10 x0) (hk4 : ∀ (x2 : Int32) (x3 : Int32) (M : zM), k4 x2 x3 M = some (v, MO) → zA l yX11_guestsWhoFeelLessThan cX11_guestsWhoFeelLessThan 4 (some .int) 3 0 0 SH.length (zDi SH v MO) 0 0 4 [(0, .ref x0), (1, .int x1), (2, .int x2), (3, .int x3)] [] SH M) (hf : f_X11_guestsWhoFeelLessThan_37 x0 x1 k4 x2 x3 M = some (v, MO)) : zA l yX11_guestsWhoFeelLessThan cX11_guestsWhoFeelLessThan 4 (some .int) 3 0 0 SH.length (zDi SH v MO) 0 0 37 [(0, .ref x0), (1, .int x1), (2, .int x2), (3, .int x3)] [] SH M := by
  unfold f_X11_guestsWhoFeelLessThan_37 at hf
  obtain ⟨x3_1, ex3_1, hf⟩ := zl_some hf
  refine z_iinc' (lv' := [(3, .int x3_1), (0, .ref x0), (1, .int x1), (2, .int x2)]) dX11_guestsWhoFeelLessThan_37 rfl (by decide) ex3_1 (by decide) rfl ?_
  refine z_goto (tgt := 4) dX11_guestsWhoFeelLessThan_40 (by decide) ?_
  refine zA.pick [(0, .ref x0), (1, .int x1), (2, .int x2), (3, .int x3_1)] [1, 2, 3, 0] rfl ?_
  exact hk4 x2 x3_1 M hf
noncomputable def f_X11_guestsWhoFeelLessThan_4 (x0 : Nat) (x1 : Int32) : Nat → Int32 → Int32 → zM → Option (Int32 × zM)
  | 0, _, _, _ => none
  | n + 1, x2, x3, M =>
    (if 24 ≤ x3 then some (x2, M) else z_rd (M.2.1 x0 1) fun a_2 => z_call (f_X8_hasGuest a_2 x3 M) fun v_3 M_4 => (if v_3 = 0 then (f_X11_guestsWhoFeelLessThan_37 x0 x1 (f_X11_guestsWhoFeelLessThan_4 x0 x1 n) x2 x3 M_4) else z_rd (M_4.2.1 x0 1) fun a_7 => z_rd (M_4.2.1 a_7 4) fun a_8 => if z_ix x3 (z_ln SH a_8) = true then (if x1 ≤ (M_4.1 a_8 (x3 : Int32).toNatClampNeg) then (f_X11_guestsWhoFeelLessThan_37 x0 x1 (f_X11_guestsWhoFeelLessThan_4 x0 x1 n) x2 x3 M_4) else zl (x2 + 1) fun x2_11 => (f_X11_guestsWhoFeelLessThan_37 x0 x1 (f_X11_guestsWhoFeelLessThan_4 x0 x1 n) x2_11 x3 M_4)) else none))
set_option maxHeartbeats 2000000 in
set_option maxRecDepth 20000 in
theorem t_X11_guestsWhoFeelLessThan_4 {l : Launch} {x0 : Nat} {x1 : Int32} {MO : zM} {v : Int32} (h0 : z_tm SH 10 x0) : ∀ (n : Nat) (x2 : Int32) (x3 : Int32) (M : zM), f_X11_guestsWhoFeelLessThan_4 x0 x1 n x2 x3 M = some (v, MO) → zA l yX11_guestsWhoFeelLessThan cX11_guestsWhoFeelLessThan 4 (some .int) 3 0 0 SH.length (zDi SH v MO) 0 0 4 [(0, .ref x0), (1, .int x1), (2, .int x2), (3, .int x3)] [] SH M := by
  intro n
  induction n with
  | zero =>
    intro x2 x3 M hf
    rw [f_X11_guestsWhoFeelLessThan_4] at hf
    cases hf
  | succ n ih =>
    intro x2 x3 M hf
    rw [f_X11_guestsWhoFeelLessThan_4] at hf
    refine z_iload_n dX11_guestsWhoFeelLessThan_4 rfl rfl ?_
    refine z_bipush (v := 24) dX11_guestsWhoFeelLessThan_5 (by decide) ?_
    refine z_icmp_ge (tgt := 43) dX11_guestsWhoFeelLessThan_7 (by decide) (fun q_1 => ?_) (fun q_1 => ?_)
    · have hf := (if_pos q_1).symm.trans hf
      refine z_iload_n dX11_guestsWhoFeelLessThan_43 rfl rfl ?_
      obtain ⟨rfl, rfl⟩ := z_end hf
      exact z_iret ⟨rfl, rfl, rfl⟩ (Or.inl rfl) dX11_guestsWhoFeelLessThan_44
    · have hf := (if_neg q_1).symm.trans hf
      refine z_aload_n dX11_guestsWhoFeelLessThan_10 rfl rfl ?_
      obtain ⟨a_2, ra_2, hf⟩ := z_rd_some hf
      refine zgR fl_X11_19 h0 (fun _ => rfl) ra_2 dX11_guestsWhoFeelLessThan_11 (fun ha_2 => ?_)
      refine z_iload_n dX11_guestsWhoFeelLessThan_14 rfl rfl ?_
      obtain ⟨v_3, M_4, c_5, hf⟩ := z_call_some hf
      refine z_cVi (t_X8_hasGuest ha_2 c_5) kw_X8_hasGuest lk_X11_180 ha_2 rfl (by decide) rfl (Nat.le_of_ble_eq_true rfl) ⟨Nat.le_refl 0, Nat.le_refl 0⟩ dX11_guestsWhoFeelLessThan_15 ?_
      refine z_if_eq (tgt := 37) dX11_guestsWhoFeelLessThan_18 (by decide) (fun q_6 => ?_) (fun q_6 => ?_)
      · have hf := (if_pos q_6).symm.trans hf
        exact t_X11_guestsWhoFeelLessThan_37 h0 ih hf
      · have hf := (if_neg q_6).symm.trans hf
        refine z_aload_n dX11_guestsWhoFeelLessThan_21 rfl rfl ?_
        obtain ⟨a_7, ra_7, hf⟩ := z_rd_some hf
        refine zgR fl_X11_19 h0 (fun _ => rfl) ra_7 dX11_guestsWhoFeelLessThan_22 (fun ha_7 => ?_)
        obtain ⟨a_8, ra_8, hf⟩ := z_rd_some hf
        refine zgR fl_X11_177 ha_7 (fun _ => rfl) ra_8 dX11_guestsWhoFeelLessThan_25 (fun ha_8 => ?_)
        refine z_iload_n dX11_guestsWhoFeelLessThan_28 rfl rfl ?_
        obtain ⟨g_9, hf⟩ := z_ifs hf
        refine z_iald ha_8 g_9 rfl dX11_guestsWhoFeelLessThan_29 ?_
        refine z_iload_n dX11_guestsWhoFeelLessThan_30 rfl rfl ?_
        refine z_icmp_ge (tgt := 37) dX11_guestsWhoFeelLessThan_31 (by decide) (fun q_10 => ?_) (fun q_10 => ?_)
        · have hf := (if_pos q_10).symm.trans hf
          exact t_X11_guestsWhoFeelLessThan_37 h0 ih hf
        · have hf := (if_neg q_10).symm.trans hf
          obtain ⟨x2_11, ex2_11, hf⟩ := zl_some hf
          refine z_iinc' (lv' := [(2, .int x2_11), (0, .ref x0), (1, .int x1), (3, .int x3)]) dX11_guestsWhoFeelLessThan_34 rfl (by decide) ex2_11 (by decide) rfl ?_
          refine zA.pick [(0, .ref x0), (1, .int x1), (2, .int x2_11), (3, .int x3)] [1, 2, 0, 3] rfl ?_
          exact t_X11_guestsWhoFeelLessThan_37 h0 ih hf
noncomputable def f_X11_guestsWhoFeelLessThan (x0 : Nat) (x1 : Int32) (M : zM) : Option (Int32 × zM) :=
  (f_X11_guestsWhoFeelLessThan_4 x0 x1 zF 0 0 M)
set_option maxHeartbeats 2000000 in
set_option maxRecDepth 20000 in
theorem t_X11_guestsWhoFeelLessThan {l : Launch} {x0 : Nat} {x1 : Int32} {M MO : zM} {v : Int32} (h0 : z_tm SH 10 x0) (hf : f_X11_guestsWhoFeelLessThan x0 x1 M = some (v, MO)) : zMet l yX11_guestsWhoFeelLessThan cX11_guestsWhoFeelLessThan 4 (some .int) 3 0 0 [.ref x0, .int x1] SH M (zDi SH v MO) := by
  refine zMet.of (by decide +kernel) (Nat.le_of_ble_eq_true rfl) (Or.inr (Or.inl rfl)) ?_
  show zA l yX11_guestsWhoFeelLessThan cX11_guestsWhoFeelLessThan 4 (some .int) 3 0 0 SH.length (zDi SH v MO) 0 0 0 [(0, .ref x0), (1, .int x1)] [] SH M
  unfold f_X11_guestsWhoFeelLessThan at hf
  refine z_iconst (v := 0) dX11_guestsWhoFeelLessThan_0 (by decide) ?_
  refine z_istore_n' (lv' := [(2, .int 0), (0, .ref x0), (1, .int x1)]) rfl dX11_guestsWhoFeelLessThan_1 (by decide) rfl rfl ?_
  refine z_iconst (v := 0) dX11_guestsWhoFeelLessThan_2 (by decide) ?_
  refine z_istore_n' (lv' := [(3, .int 0), (2, .int 0), (0, .ref x0), (1, .int x1)]) rfl dX11_guestsWhoFeelLessThan_3 (by decide) rfl rfl ?_
  refine zA.pick [(0, .ref x0), (1, .int x1), (2, .int 0), (3, .int 0)] [2, 3, 1, 0] rfl ?_
  exact t_X11_guestsWhoFeelLessThan_4 h0 zF 0 0 M hf
