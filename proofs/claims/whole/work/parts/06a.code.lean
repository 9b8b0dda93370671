noncomputable def f_J6_bitCount_0f7a4 (x0 : Int32) (M : zM) : Option (Int32 × zM) :=
  zl ((x0 - (((x0 : Int32).toUInt32 >>> ((1 : Int32).toUInt32 &&& Int32.toUInt32 31)).toInt32 &&& 1431655765))) fun x0_1 => zl (((x0_1 &&& 858993459) + (((x0_1 : Int32).toUInt32 >>> ((2 : Int32).toUInt32 &&& Int32.toUInt32 31)).toInt32 &&& 858993459))) fun x0_2 => zl (((x0_2 + ((x0_2 : Int32).toUInt32 >>> ((4 : Int32).toUInt32 &&& Int32.toUInt32 31)).toInt32) &&& 252645135)) fun x0_3 => zl ((x0_3 + ((x0_3 : Int32).toUInt32 >>> ((8 : Int32).toUInt32 &&& Int32.toUInt32 31)).toInt32)) fun x0_4 => zl ((x0_4 + ((x0_4 : Int32).toUInt32 >>> ((16 : Int32).toUInt32 &&& Int32.toUInt32 31)).toInt32)) fun x0_5 => some ((x0_5 &&& 63), M)
set_option maxHeartbeats 2000000 in
set_option maxRecDepth 20000 in
theorem t_J6_bitCount_0f7a4 {l : Launch} {x0 : Int32} {M MO : zM} {v : Int32} (hf : f_J6_bitCount_0f7a4 x0 M = some (v, MO)) : zMet l yJ6_bitCount_0f7a4 cJ6_bitCount_0f7a4 1 (some .int) 1 0 0 [.int x0] SH M (zDi SH v MO) := by
  refine zMet.of (by decide +kernel) (Nat.le_of_ble_eq_true rfl) (Or.inr (Or.inl rfl)) ?_
  show zA l yJ6_bitCount_0f7a4 cJ6_bitCount_0f7a4 1 (some .int) 1 0 0 SH.length (zDi SH v MO) 0 0 0 [(0, .int x0)] [] SH M
  unfold f_J6_bitCount_0f7a4 at hf
  refine z_iload_n dJ6_bitCount_0f7a4_0 rfl rfl ?_
  refine z_iload_n dJ6_bitCount_0f7a4_1 rfl rfl ?_
  refine z_iconst (v := 1) dJ6_bitCount_0f7a4_2 (by decide) ?_
  refine z_iushr dJ6_bitCount_0f7a4_3 ?_
  refine z_ldcw (v := 1431655765) dJ6_bitCount_0f7a4_4 cn_J6_265 ?_
  refine z_iand dJ6_bitCount_0f7a4_7 ?_
  refine z_isub dJ6_bitCount_0f7a4_8 ?_
  obtain ⟨x0_1, ex0_1, hf⟩ := zl_some hf
  refine z_istore_n' (lv' := [(0, .int x0_1)]) rfl dJ6_bitCount_0f7a4_9 (by decide) ex0_1 rfl ?_
  refine z_iload_n dJ6_bitCount_0f7a4_10 rfl rfl ?_
  refine z_ldcw (v := 858993459) dJ6_bitCount_0f7a4_11 cn_J6_266 ?_
  refine z_iand dJ6_bitCount_0f7a4_14 ?_
  refine z_iload_n dJ6_bitCount_0f7a4_15 rfl rfl ?_
  refine z_iconst (v := 2) dJ6_bitCount_0f7a4_16 (by decide) ?_
  refine z_iushr dJ6_bitCount_0f7a4_17 ?_
  refine z_ldcw (v := 858993459) dJ6_bitCount_0f7a4_18 cn_J6_266 ?_
  refine z_iand dJ6_bitCount_0f7a4_21 ?_
  refine z_iadd dJ6_bitCount_0f7a4_22 ?_
  obtain ⟨x0_2, ex0_2, hf⟩ := zl_some hf
  refine z_istore_n' (lv' := [(0, .int x0_2)]) rfl dJ6_bitCount_0f7a4_23 (by decide) ex0_2 rfl ?_
  refine z_iload_n dJ6_bitCount_0f7a4_24 rfl rfl ?_
  refine z_iload_n dJ6_bitCount_0f7a4_25 rfl rfl ?_
  refine z_iconst (v := 4) dJ6_bitCount_0f7a4_26 (by decide) ?_
  refine z_iushr dJ6_bitCount_0f7a4_27 ?_
  refine z_iadd dJ6_bitCount_0f7a4_28 ?_
  refine z_ldcw (v := 252645135) dJ6_bitCount_0f7a4_29 cn_J6_267 ?_
  refine z_iand dJ6_bitCount_0f7a4_32 ?_
  obtain ⟨x0_3, ex0_3, hf⟩ := zl_some hf
  refine z_istore_n' (lv' := [(0, .int x0_3)]) rfl dJ6_bitCount_0f7a4_33 (by decide) ex0_3 rfl ?_
  refine z_iload_n dJ6_bitCount_0f7a4_34 rfl rfl ?_
  refine z_iload_n dJ6_bitCount_0f7a4_35 rfl rfl ?_
  refine z_bipush (v := 8) dJ6_bitCount_0f7a4_36 (by decide) ?_
  refine z_iushr dJ6_bitCount_0f7a4_38 ?_
  refine z_iadd dJ6_bitCount_0f7a4_39 ?_
  obtain ⟨x0_4, ex0_4, hf⟩ := zl_some hf
  refine z_istore_n' (lv' := [(0, .int x0_4)]) rfl dJ6_bitCount_0f7a4_40 (by decide) ex0_4 rfl ?_
  refine z_iload_n dJ6_bitCount_0f7a4_41 rfl rfl ?_
  refine z_iload_n dJ6_bitCount_0f7a4_42 rfl rfl ?_
  refine z_bipush (v := 16) dJ6_bitCount_0f7a4_43 (by decide) ?_
  refine z_iushr dJ6_bitCount_0f7a4_45 ?_
  refine z_iadd dJ6_bitCount_0f7a4_46 ?_
  obtain ⟨x0_5, ex0_5, hf⟩ := zl_some hf
  refine z_istore_n' (lv' := [(0, .int x0_5)]) rfl dJ6_bitCount_0f7a4_47 (by decide) ex0_5 rfl ?_
  refine z_iload_n dJ6_bitCount_0f7a4_48 rfl rfl ?_
  refine z_bipush (v := 63) dJ6_bitCount_0f7a4_49 (by decide) ?_
  refine z_iand dJ6_bitCount_0f7a4_51 ?_
  obtain ⟨rfl, rfl⟩ := z_end hf
  exact z_iret ⟨rfl, rfl, rfl⟩ (Or.inl rfl) dJ6_bitCount_0f7a4_52
noncomputable def f_J7_fill_53178_5 (x0 : Nat) (x1 : Int32) : Nat → Int32 → Int32 → zM → Option (Unit × zM)
  | 0, _, _, _ => none
  | n + 1, x2, x3, M =>
    (if x3 ≤ x2 then some ((), M) else if z_ix x2 (z_ln SH x0) = true then zl (zu M.1 x0 (x2 : Int32).toNatClampNeg x1, M.2) fun M_3 => zl (x2 + 1) fun x2_4 => (f_J7_fill_53178_5 x0 x1 n x2_4 x3 M_3) else none)
set_option maxHeartbeats 2000000 in
set_option maxRecDepth 20000 in
theorem t_J7_fill_53178_5 {l : Launch} {x0 : Nat} {x1 : Int32} {MO : zM} {v : Unit} (h0 : z_tm SH 100 x0) : ∀ (n : Nat) (x2 : Int32) (x3 : Int32) (M : zM), f_J7_fill_53178_5 x0 x1 n x2 x3 M = some (v, MO) → zA l yJ7_fill_53178 cJ7_fill_53178 4 none 1 0 0 SH.length (zDv SH MO) 0 0 5 [(0, .ref x0), (1, .int x1), (2, .int x2), (3, .int x3)] [] SH M := by
  intro n
  induction n with
  | zero =>
    intro x2 x3 M hf
    rw [f_J7_fill_53178_5] at hf
    cases hf
  | succ n ih =>
    intro x2 x3 M hf
    rw [f_J7_fill_53178_5] at hf
    refine z_iload_n dJ7_fill_53178_5 rfl rfl ?_
    refine z_iload_n dJ7_fill_53178_6 rfl rfl ?_
    refine z_icmp_ge (tgt := 20) dJ7_fill_53178_7 (by decide) (fun q_1 => ?_) (fun q_1 => ?_)
    · have hf := (if_pos q_1).symm.trans hf
      obtain ⟨rfl, rfl⟩ := z_end hf
      exact z_vret ⟨rfl, rfl, rfl⟩ rfl dJ7_fill_53178_20
    · have hf := (if_neg q_1).symm.trans hf
      refine z_aload_n dJ7_fill_53178_10 rfl rfl ?_
      refine z_iload_n dJ7_fill_53178_11 rfl rfl ?_
      refine z_iload_n dJ7_fill_53178_12 rfl rfl ?_
      obtain ⟨g_2, hf⟩ := z_ifs hf
      obtain ⟨M_3, eM_3, hf⟩ := zl_some hf
      refine z_iast h0 g_2 eM_3 dJ7_fill_53178_13 ?_
      obtain ⟨x2_4, ex2_4, hf⟩ := zl_some hf
      refine z_iinc' (lv' := [(2, .int x2_4), (0, .ref x0), (1, .int x1), (3, .int x3)]) dJ7_fill_53178_14 rfl (by decide) ex2_4 (by decide) rfl ?_
      refine z_goto (tgt := 5) dJ7_fill_53178_17 (by decide) ?_
      refine zA.pick [(0, .ref x0), (1, .int x1), (2, .int x2_4), (3, .int x3)] [1, 2, 0, 3] rfl ?_
      exact ih x2_4 x3 M_3 hf
noncomputable def f_J7_fill_53178 (x0 : Nat) (x1 : Int32) (M : zM) : Option (Unit × zM) :=
  zl ((Int32.ofNat (z_ln SH x0))) fun x3_1 => (f_J7_fill_53178_5 x0 x1 zF 0 x3_1 M)
set_option maxHeartbeats 2000000 in
set_option maxRecDepth 20000 in
theorem t_J7_fill_53178 {l : Launch} {x0 : Nat} {x1 : Int32} {M MO : zM} {v : Unit} (h0 : z_tm SH 100 x0) (hf : f_J7_fill_53178 x0 x1 M = some (v, MO)) : zMet l yJ7_fill_53178 cJ7_fill_53178 4 none 1 0 0 [.ref x0, .int x1] SH M (zDv SH MO) := by
  refine zMet.of (by decide +kernel) (Nat.le_of_ble_eq_true rfl) (Or.inl rfl) ?_
  show zA l yJ7_fill_53178 cJ7_fill_53178 4 none 1 0 0 SH.length (zDv SH MO) 0 0 0 [(0, .ref x0), (1, .int x1)] [] SH M
  unfold f_J7_fill_53178 at hf
  refine z_iconst (v := 0) dJ7_fill_53178_0 (by decide) ?_
  refine z_istore_n' (lv' := [(2, .int 0), (0, .ref x0), (1, .int x1)]) rfl dJ7_fill_53178_1 (by decide) rfl rfl ?_
  refine z_aload_n dJ7_fill_53178_2 rfl rfl ?_
  refine z_alen h0 rfl dJ7_fill_53178_3 ?_
  obtain ⟨x3_1, ex3_1, hf⟩ := zl_some hf
  refine z_istore_n' (lv' := [(3, .int x3_1), (2, .int 0), (0, .ref x0), (1, .int x1)]) rfl dJ7_fill_53178_4 (by decide) ex3_1 rfl ?_
  refine zA.pick [(0, .ref x0), (1, .int x1), (2, .int 0), (3, .int x3_1)] [2, 3, 1, 0] rfl ?_
  exact t_J7_fill_53178_5 h0 zF 0 x3_1 M hf
noncomputable def f_X10_hasSpace (x0 : Nat) (M : zM) : Option (Int32 × zM) :=
  (if 260 < ((M.1 x0 1) + 20) then some (0, M) else some (1, M))
set_option maxHeartbeats 2000000 in
set_option maxRecDepth 20000 in
theorem t_X10_hasSpace {l : Launch} {x0 : Nat} {M MO : zM} {v : Int32} (h0 : z_tm SH 9 x0) (hf : f_X10_hasSpace x0 M = some (v, MO)) : zMet l yX10_hasSpace cX10_hasSpace 1 (some .boolean) 1 0 0 [.ref x0] SH M (zDi SH v MO) := by
  refine zMet.of (by decide +kernel) (Nat.le_of_ble_eq_true rfl) (Or.inr (Or.inr (Or.inl rfl))) ?_
  show zA l yX10_hasSpace cX10_hasSpace 1 (some .boolean) 1 0 0 SH.length (zDi SH v MO) 0 0 0 [(0, .ref x0)] [] SH M
  unfold f_X10_hasSpace at hf
  refine z_aload_n dX10_hasSpace_0 rfl rfl ?_
  refine zgI fl_X10_15 h0 (fun _ => rfl) dX10_hasSpace_1 ?_
  refine z_bipush (v := 20) dX10_hasSpace_4 (by decide) ?_
  refine z_iadd dX10_hasSpace_6 ?_
  refine z_sipush (v := 260) dX10_hasSpace_7 (by decide) ?_
  refine z_icmp_gt (tgt := 17) dX10_hasSpace_10 (by decide) (fun q_1 => ?_) (fun q_1 => ?_)
  · have hf := (if_pos q_1).symm.trans hf
    refine z_iconst (v := 0) dX10_hasSpace_17 (by decide) ?_
    obtain ⟨rfl, rfl⟩ := z_end hf
    exact z_iret ⟨rfl, rfl, rfl⟩ (Or.inr ⟨rfl, (Or.inl rfl)⟩) dX10_hasSpace_18
  · have hf := (if_neg q_1).symm.trans hf
    refine z_iconst (v := 1) dX10_hasSpace_13 (by decide) ?_
    refine z_goto (tgt := 18) dX10_hasSpace_14 (by decide) ?_
    obtain ⟨rfl, rfl⟩ := z_end hf
    exact z_iret ⟨rfl, rfl, rfl⟩ (Or.inr ⟨rfl, (Or.inr rfl)⟩) dX10_hasSpace_18
noncomputable def f_X10_addWord_52 (x0 : Nat) (x1 : Int32) (k3 : Int32 → zM → Option (Unit × zM)) (x2 : Int32) (M : zM) : Option (Unit × zM) :=
  zl (x2 + (-8)) fun x2_1 => (k3 x2_1 M)
set_option maxHeartbeats 2000000 in
set_option maxRecDepth 20000 in
theorem t_X10_addWord_52 {l : Launch} {x0 : Nat} {x1 : Int32} {k3 : Int32 → zM → Option (Unit × zM)} {x2 : Int32} {M MO : zM} {v : Unit} (h0 : z_tm SH 9 x0) (hk3 : ∀ (x2 : Int32) (M : zM), k3 x2 M = some (v, MO) → zA l yX10_addWord cX10_addWord 3 none 1 0 0 SH.length (zDv SH MO) 0 0 3 [(0, .ref x0), (1, .int x1), (2, .int x2)] [] SH M) (hf : f_X10_addWord_52 x0 x1 k3 x2 M = some (v, MO)) : zA l yX10_addWord cX10_addWord 3 none 1 0 0 SH.length (zDv SH MO) 0 0 52 [(0, .ref x0), (1, .int x1), (2, .int x2)] [] SH M := by
  unfold f_X10_addWord_52 at hf
  obtain ⟨x2_1, ex2_1, hf⟩ := zl_some hf
  refine z_iinc' (lv' := [(2, .int x2_1), (0, .ref x0), (1, .int x1)]) dX10_addWord_52 rfl (by decide) ex2_1 (by decide) rfl ?_
  refine z_goto (tgt := 3) dX10_addWord_55 (by decide) ?_
  refine zA.pick [(0, .ref x0), (1, .int x1), (2, .int x2_1)] [1, 2, 0] rfl ?_
  exact hk3 x2_1 M hf
noncomputable def f_X10_addWord_3 (x0 : Nat) (x1 : Int32) : Nat → Int32 → zM → Option (Unit × zM)
  | 0, _, _ => none
  | n + 1, x2, M =>
    (if x2 < 0 then some ((), M) else (if (M.1 x0 1) < 0 then (f_X10_addWord_52 x0 x1 (f_X10_addWord_3 x0 x1 n) x2 M) else z_rd (M.2.1 x0 0) fun a_3 => (if (Int32.ofNat (z_ln SH a_3)) ≤ (M.1 x0 1) then (f_X10_addWord_52 x0 x1 (f_X10_addWord_3 x0 x1 n) x2 M) else z_rd (M.2.1 x0 0) fun a_5 => if z_ix (M.1 x0 1) (z_ln SH a_5) = true then zl (zu M.1 a_5 ((M.1 x0 1) : Int32).toNatClampNeg (((x1 : Int32) >>> (x2 &&& 31)) &&& 255), M.2) fun M_7 => zl (zu M_7.1 x0 1 ((M_7.1 x0 1) + 1), M_7.2) fun M_8 => (f_X10_addWord_52 x0 x1 (f_X10_addWord_3 x0 x1 n) x2 M_8) else none)))
set_option maxHeartbeats 2000000 in
set_option maxRecDepth 20000 in
theorem t_X10_addWord_3 {l : Launch} {x0 : Nat} {x1 : Int32} {MO : zM} {v : Unit} (h0 : z_tm SH 9 x0) : ∀ (n : Nat) (x2 : Int32) (M : zM), f_X10_addWord_3 x0 x1 n x2 M = some (v, MO) → zA l yX10_addWord cX10_addWord 3 none 1 0 0 SH.length (zDv SH MO) 0 0 3 [(0, .ref x0), (1, .int x1), (2, .int x2)] [] SH M := by
  intro n
  induction n with
  | zero =>
    intro x2 M hf
    rw [f_X10_addWord_3] at hf
    cases hf
  | succ n ih =>
    intro x2 M hf
    rw [f_X10_addWord_3] at hf
    refine z_iload_n dX10_addWord_3 rfl rfl ?_
    refine z_if_lt (tgt := 58) dX10_addWord_4 (by decide) (fun q_1 => ?_) (fun q_1 => ?_)
    · have hf := (if_pos q_1).symm.trans hf
      obtain ⟨rfl, rfl⟩ := z_end hf
      exact z_vret ⟨rfl, rfl, rfl⟩ rfl dX10_addWord_58
    · have hf := (if_neg q_1).symm.trans hf
      refine z_aload_n dX10_addWord_7 rfl rfl ?_
      refine zgI fl_X10_15 h0 (fun _ => rfl) dX10_addWord_8 ?_
      refine z_if_lt (tgt := 52) dX10_addWord_11 (by decide) (fun q_2 => ?_) (fun q_2 => ?_)
      · have hf := (if_pos q_2).symm.trans hf
        exact t_X10_addWord_52 h0 ih hf
      · have hf := (if_neg q_2).symm.trans hf
        refine z_aload_n dX10_addWord_14 rfl rfl ?_
        refine zgI fl_X10_15 h0 (fun _ => rfl) dX10_addWord_15 ?_
        refine z_aload_n dX10_addWord_18 rfl rfl ?_
        obtain ⟨a_3, ra_3, hf⟩ := z_rd_some hf
        refine zgR fl_X10_9 h0 (fun _ => rfl) ra_3 dX10_addWord_19 (fun ha_3 => ?_)
        refine z_alen ha_3 rfl dX10_addWord_22 ?_
        refine z_icmp_ge (tgt := 52) dX10_addWord_23 (by decide) (fun q_4 => ?_) (fun q_4 => ?_)
        · have hf := (if_pos q_4).symm.trans hf
          exact t_X10_addWord_52 h0 ih hf
        · have hf := (if_neg q_4).symm.trans hf
          refine z_aload_n dX10_addWord_26 rfl rfl ?_
          obtain ⟨a_5, ra_5, hf⟩ := z_rd_some hf
          refine zgR fl_X10_9 h0 (fun _ => rfl) ra_5 dX10_addWord_27 (fun ha_5 => ?_)
          refine z_aload_n dX10_addWord_30 rfl rfl ?_
          refine zgI fl_X10_15 h0 (fun _ => rfl) dX10_addWord_31 ?_
          refine z_iload_n dX10_addWord_34 rfl rfl ?_
          refine z_iload_n dX10_addWord_35 rfl rfl ?_
          refine z_ishr dX10_addWord_36 ?_
          refine z_sipush (v := 255) dX10_addWord_37 (by decide) ?_
          refine z_iand dX10_addWord_40 ?_
          obtain ⟨g_6, hf⟩ := z_ifs hf
          obtain ⟨M_7, eM_7, hf⟩ := zl_some hf
          refine z_iast ha_5 g_6 eM_7 dX10_addWord_41 ?_
          refine z_aload_n dX10_addWord_42 rfl rfl ?_
          refine z_dup dX10_addWord_43 rfl ?_
          refine zgI fl_X10_15 h0 (fun _ => rfl) dX10_addWord_44 ?_
          refine z_iconst (v := 1) dX10_addWord_47 (by decide) ?_
          refine z_iadd dX10_addWord_48 ?_
          obtain ⟨M_8, eM_8, hf⟩ := zl_some hf
          refine zpI fl_X10_15 h0 rfl (Or.inl rfl) eM_8 dX10_addWord_49 ?_
          exact t_X10_addWord_52 h0 ih hf
noncomputable def f_X10_addWord (x0 : Nat) (x1 : Int32) (M : zM) : Option (Unit × zM) :=
  (f_X10_addWord_3 x0 x1 zF 24 M)
set_option maxHeartbeats 2000000 in
set_option maxRecDepth 20000 in
theorem t_X10_addWord {l : Launch} {x0 : Nat} {x1 : Int32} {M MO : zM} {v : Unit} (h0 : z_tm SH 9 x0) (hf : f_X10_addWord x0 x1 M = some (v, MO)) : zMet l yX10_addWord cX10_addWord 3 none 1 0 0 [.ref x0, .int x1] SH M (zDv SH MO) := by
  refine zMet.of (by decide +kernel) (Nat.le_of_ble_eq_true rfl) (Or.inl rfl) ?_
  show zA l yX10_addWord cX10_addWord 3 none 1 0 0 SH.length (zDv SH MO) 0 0 0 [(0, .ref x0), (1, .int x1)] [] SH M
  unfold f_X10_addWord at hf
  refine z_bipush (v := 24) dX10_addWord_0 (by decide) ?_
  refine z_istore_n' (lv' := [(2, .int 24), (0, .ref x0), (1, .int x1)]) rfl dX10_addWord_2 (by decide) rfl rfl ?_
  refine zA.pick [(0, .ref x0), (1, .int x1), (2, .int 24)] [1, 2, 0] rfl ?_
  exact t_X10_addWord_3 h0 zF 24 M hf
noncomputable def f_X10_has (x0 : Nat) (x1 : Int32) (M : zM) : Option (Int32 × zM) :=
  (if (M.1 x0 1) < x1 then some (0, M) else some (1, M))
set_option maxHeartbeats 2000000 in
set_option maxRecDepth 20000 in
theorem t_X10_has {l : Launch} {x0 : Nat} {x1 : Int32} {M MO : zM} {v : Int32} (h0 : z_tm SH 9 x0) (hf : f_X10_has x0 x1 M = some (v, MO)) : zMet l yX10_has cX10_has 2 (some .boolean) 1 0 0 [.ref x0, .int x1] SH M (zDi SH v MO) := by
  refine zMet.of (by decide +kernel) (Nat.le_of_ble_eq_true rfl) (Or.inr (Or.inr (Or.inl rfl))) ?_
  show zA l yX10_has cX10_has 2 (some .boolean) 1 0 0 SH.length (zDi SH v MO) 0 0 0 [(0, .ref x0), (1, .int x1)] [] SH M
  unfold f_X10_has at hf
  refine z_iload_n dX10_has_0 rfl rfl ?_
  refine z_aload_n dX10_has_1 rfl rfl ?_
  refine zgI fl_X10_15 h0 (fun _ => rfl) dX10_has_2 ?_
  refine z_icmp_gt (tgt := 12) dX10_has_5 (by decide) (fun q_1 => ?_) (fun q_1 => ?_)
  · have hf := (if_pos q_1).symm.trans hf
    refine z_iconst (v := 0) dX10_has_12 (by decide) ?_
    obtain ⟨rfl, rfl⟩ := z_end hf
    exact z_iret ⟨rfl, rfl, rfl⟩ (Or.inr ⟨rfl, (Or.inl rfl)⟩) dX10_has_13
  · have hf := (if_neg q_1).symm.trans hf
    refine z_iconst (v := 1) dX10_has_8 (by decide) ?_
    refine z_goto (tgt := 13) dX10_has_9 (by decide) ?_
    obtain ⟨rfl, rfl⟩ := z_end hf
    exact z_iret ⟨rfl, rfl, rfl⟩ (Or.inr ⟨rfl, (Or.inr rfl)⟩) dX10_has_13
noncomputable def f_X10_take (x0 : Nat) (x1 : Int32) (M : zM) : Option (Unit × zM) :=
  zl (zu M.1 x0 1 0, M.2) fun M_1 => z_rd (M_1.2.1 x0 0) fun a_2 => zl (zu M_1.1 x0 2 (z_min x1 (Int32.ofNat (z_ln SH a_2))), M_1.2) fun M_3 => zl (zu M_3.1 x0 3 0, M_3.2) fun M_4 => zl (zu M_4.1 x0 4 0, M_4.2) fun M_5 => some ((), M_5)
set_option maxHeartbeats 2000000 in
set_option maxRecDepth 20000 in
theorem t_X10_take {l : Launch} {x0 : Nat} {x1 : Int32} {M MO : zM} {v : Unit} (h0 : z_tm SH 9 x0) (hf : f_X10_take x0 x1 M = some (v, MO)) : zMet l yX10_take cX10_take 2 none 1 0 0 [.ref x0, .int x1] SH M (zDv SH MO) := by
  refine zMet.of (by decide +kernel) (Nat.le_of_ble_eq_true rfl) (Or.inl rfl) ?_
  show zA l yX10_take cX10_take 2 none 1 0 0 SH.length (zDv SH MO) 0 0 0 [(0, .ref x0), (1, .int x1)] [] SH M
  unfold f_X10_take at hf
  refine z_aload_n dX10_take_0 rfl rfl ?_
  refine z_iconst (v := 0) dX10_take_1 (by decide) ?_
  obtain ⟨M_1, eM_1, hf⟩ := zl_some hf
  refine zpI fl_X10_15 h0 rfl (Or.inl rfl) eM_1 dX10_take_2 ?_
  refine z_aload_n dX10_take_5 rfl rfl ?_
  refine z_iload_n dX10_take_6 rfl rfl ?_
  refine z_aload_n dX10_take_7 rfl rfl ?_
  obtain ⟨a_2, ra_2, hf⟩ := z_rd_some hf
  refine zgR fl_X10_9 h0 (fun _ => rfl) ra_2 dX10_take_8 (fun ha_2 => ?_)
  refine z_alen ha_2 rfl dX10_take_11 ?_
  refine z_mmin mm_X10_19 mm_smin mm_ini mm_cmin (by decide) (Nat.le_of_ble_eq_true rfl) dX10_take_12 ?_
  obtain ⟨M_3, eM_3, hf⟩ := zl_some hf
  refine zpI fl_X10_25 h0 rfl (Or.inl rfl) eM_3 dX10_take_15 ?_
  refine z_aload_n dX10_take_18 rfl rfl ?_
  refine z_iconst (v := 0) dX10_take_19 (by decide) ?_
  obtain ⟨M_4, eM_4, hf⟩ := zl_some hf
  refine zpI fl_X10_28 h0 rfl (Or.inl rfl) eM_4 dX10_take_20 ?_
  refine z_aload_n dX10_take_23 rfl rfl ?_
  refine z_iconst (v := 0) dX10_take_24 (by decide) ?_
  obtain ⟨M_5, eM_5, hf⟩ := zl_some hf
  refine zpI fl_X10_31 h0 rfl (Or.inl rfl) eM_5 dX10_take_25 ?_
  obtain ⟨rfl, rfl⟩ := z_end hf
  exact z_vret ⟨rfl, rfl, rfl⟩ rfl dX10_take_28
noncomputable def f_X10_byteAt (x0 : Nat) (x1 : Int32) (M : zM) : Option (Int32 × zM) :=
  (if x1 < 0 then some ((-1), M) else (if (M.1 x0 2) ≤ x1 then some ((-1), M) else z_rd (M.2.1 x0 0) fun a_3 => (if (Int32.ofNat (z_ln SH a_3)) ≤ x1 then some ((-1), M) else z_rd (M.2.1 x0 0) fun a_5 => if z_ix x1 (z_ln SH a_5) = true then some ((M.1 a_5 (x1 : Int32).toNatClampNeg), M) else none)))
set_option maxHeartbeats 2000000 in
set_option maxRecDepth 20000 in
theorem t_X10_byteAt {l : Launch} {x0 : Nat} {x1 : Int32} {M MO : zM} {v : Int32} (h0 : z_tm SH 9 x0) (hf : f_X10_byteAt x0 x1 M = some (v, MO)) : zMet l yX10_byteAt cX10_byteAt 2 (some .int) 1 0 0 [.ref x0, .int x1] SH M (zDi SH v MO) := by
  refine zMet.of (by decide +kernel) (Nat.le_of_ble_eq_true rfl) (Or.inr (Or.inl rfl)) ?_
  show zA l yX10_byteAt cX10_byteAt 2 (some .int) 1 0 0 SH.length (zDi SH v MO) 0 0 0 [(0, .ref x0), (1, .int x1)] [] SH M
  unfold f_X10_byteAt at hf
  refine z_iload_n dX10_byteAt_0 rfl rfl ?_
  refine z_if_lt (tgt := 30) dX10_byteAt_1 (by decide) (fun q_1 => ?_) (fun q_1 => ?_)
  · have hf := (if_pos q_1).symm.trans hf
    refine z_iconst (v := (-1)) dX10_byteAt_30 (by decide) ?_
    obtain ⟨rfl, rfl⟩ := z_end hf
    exact z_iret ⟨rfl, rfl, rfl⟩ (Or.inl rfl) dX10_byteAt_31
  · have hf := (if_neg q_1).symm.trans hf
    refine z_iload_n dX10_byteAt_4 rfl rfl ?_
    refine z_aload_n dX10_byteAt_5 rfl rfl ?_
    refine zgI fl_X10_25 h0 (fun _ => rfl) dX10_byteAt_6 ?_
    refine z_icmp_ge (tgt := 30) dX10_byteAt_9 (by decide) (fun q_2 => ?_) (fun q_2 => ?_)
    · have hf := (if_pos q_2).symm.trans hf
      refine z_iconst (v := (-1)) dX10_byteAt_30 (by decide) ?_
      obtain ⟨rfl, rfl⟩ := z_end hf
      exact z_iret ⟨rfl, rfl, rfl⟩ (Or.inl rfl) dX10_byteAt_31
    · have hf := (if_neg q_2).symm.trans hf
      refine z_iload_n dX10_byteAt_12 rfl rfl ?_
      refine z_aload_n dX10_byteAt_13 rfl rfl ?_
      obtain ⟨a_3, ra_3, hf⟩ := z_rd_some hf
      refine zgR fl_X10_9 h0 (fun _ => rfl) ra_3 dX10_byteAt_14 (fun ha_3 => ?_)
      refine z_alen ha_3 rfl dX10_byteAt_17 ?_
      refine z_icmp_ge (tgt := 30) dX10_byteAt_18 (by decide) (fun q_4 => ?_) (fun q_4 => ?_)
      · have hf := (if_pos q_4).symm.trans hf
        refine z_iconst (v := (-1)) dX10_byteAt_30 (by decide) ?_
        obtain ⟨rfl, rfl⟩ := z_end hf
        exact z_iret ⟨rfl, rfl, rfl⟩ (Or.inl rfl) dX10_byteAt_31
      · have hf := (if_neg q_4).symm.trans hf
        refine z_aload_n dX10_byteAt_21 rfl rfl ?_
        obtain ⟨a_5, ra_5, hf⟩ := z_rd_some hf
        refine zgR fl_X10_9 h0 (fun _ => rfl) ra_5 dX10_byteAt_22 (fun ha_5 => ?_)
        refine z_iload_n dX10_byteAt_25 rfl rfl ?_
        obtain ⟨g_6, hf⟩ := z_ifs hf
        refine z_iald ha_5 g_6 rfl dX10_byteAt_26 ?_
        refine z_goto (tgt := 31) dX10_byteAt_27 (by decide) ?_
        obtain ⟨rfl, rfl⟩ := z_end hf
        exact z_iret ⟨rfl, rfl, rfl⟩ (Or.inl rfl) dX10_byteAt_31
noncomputable def f_X10_sign (x0 : Nat) (M : zM) : Option (Int32 × zM) :=
  (if (M.1 x0 4) = 0 then (if (M.1 x0 3) < 0 then some ((-1), M) else (if (M.1 x0 2) ≤ (M.1 x0 3) then some ((-1), M) else z_rd (M.2.1 x0 0) fun a_4 => (if (Int32.ofNat (z_ln SH a_4)) ≤ (M.1 x0 3) then some ((-1), M) else z_rd (M.2.1 x0 0) fun a_6 => if z_ix (M.1 x0 3) (z_ln SH a_6) = true then some ((M.1 a_6 ((M.1 x0 3) : Int32).toNatClampNeg), M) else none))) else some ((-1), M))
set_option maxHeartbeats 2000000 in
set_option maxRecDepth 20000 in
theorem t_X10_sign {l : Launch} {x0 : Nat} {M MO : zM} {v : Int32} (h0 : z_tm SH 9 x0) (hf : f_X10_sign x0 M = some (v, MO)) : zMet l yX10_sign cX10_sign 1 (some .int) 1 0 0 [.ref x0] SH M (zDi SH v MO) := by
  refine zMet.of (by decide +kernel) (Nat.le_of_ble_eq_true rfl) (Or.inr (Or.inl rfl)) ?_
  show zA l yX10_sign cX10_sign 1 (some .int) 1 0 0 SH.length (zDi SH v MO) 0 0 0 [(0, .ref x0)] [] SH M
  unfold f_X10_sign at hf
  refine z_aload_n dX10_sign_0 rfl rfl ?_
  refine zgI fl_X10_31 h0 (fun _ => rfl) dX10_sign_1 ?_
  refine z_if_ne (tgt := 49) dX10_sign_4 (by decide) (fun q_1 => ?_) (fun q_1 => ?_)
  · have hf := (if_neg q_1).symm.trans hf
    refine z_iconst (v := (-1)) dX10_sign_49 (by decide) ?_
    obtain ⟨rfl, rfl⟩ := z_end hf
    exact z_iret ⟨rfl, rfl, rfl⟩ (Or.inl rfl) dX10_sign_50
  · have hf := (if_pos q_1).symm.trans hf
    refine z_aload_n dX10_sign_7 rfl rfl ?_
    refine zgI fl_X10_28 h0 (fun _ => rfl) dX10_sign_8 ?_
    refine z_if_lt (tgt := 49) dX10_sign_11 (by decide) (fun q_2 => ?_) (fun q_2 => ?_)
    · have hf := (if_pos q_2).symm.trans hf
      refine z_iconst (v := (-1)) dX10_sign_49 (by decide) ?_
      obtain ⟨rfl, rfl⟩ := z_end hf
      exact z_iret ⟨rfl, rfl, rfl⟩ (Or.inl rfl) dX10_sign_50
    · have hf := (if_neg q_2).symm.trans hf
      refine z_aload_n dX10_sign_14 rfl rfl ?_
      refine zgI fl_X10_28 h0 (fun _ => rfl) dX10_sign_15 ?_
      refine z_aload_n dX10_sign_18 rfl rfl ?_
      refine zgI fl_X10_25 h0 (fun _ => rfl) dX10_sign_19 ?_
      refine z_icmp_ge (tgt := 49) dX10_sign_22 (by decide) (fun q_3 => ?_) (fun q_3 => ?_)
      · have hf := (if_pos q_3).symm.trans hf
        refine z_iconst (v := (-1)) dX10_sign_49 (by decide) ?_
        obtain ⟨rfl, rfl⟩ := z_end hf
        exact z_iret ⟨rfl, rfl, rfl⟩ (Or.inl rfl) dX10_sign_50
      · have hf := (if_neg q_3).symm.trans hf
        refine z_aload_n dX10_sign_25 rfl rfl ?_
        refine zgI fl_X10_28 h0 (fun _ => rfl) dX10_sign_26 ?_
        refine z_aload_n dX10_sign_29 rfl rfl ?_
        obtain ⟨a_4, ra_4, hf⟩ := z_rd_some hf
        refine zgR fl_X10_9 h0 (fun _ => rfl) ra_4 dX10_sign_30 (fun ha_4 => ?_)
        refine z_alen ha_4 rfl dX10_sign_33 ?_
        refine z_icmp_ge (tgt := 49) dX10_sign_34 (by decide) (fun q_5 => ?_) (fun q_5 => ?_)
        · have hf := (if_pos q_5).symm.trans hf
          refine z_iconst (v := (-1)) dX10_sign_49 (by decide) ?_
          obtain ⟨rfl, rfl⟩ := z_end hf
          exact z_iret ⟨rfl, rfl, rfl⟩ (Or.inl rfl) dX10_sign_50
        · have hf := (if_neg q_5).symm.trans hf
          refine z_aload_n dX10_sign_37 rfl rfl ?_
          obtain ⟨a_6, ra_6, hf⟩ := z_rd_some hf
          refine zgR fl_X10_9 h0 (fun _ => rfl) ra_6 dX10_sign_38 (fun ha_6 => ?_)
          refine z_aload_n dX10_sign_41 rfl rfl ?_
          refine zgI fl_X10_28 h0 (fun _ => rfl) dX10_sign_42 ?_
          obtain ⟨g_7, hf⟩ := z_ifs hf
          refine z_iald ha_6 g_7 rfl dX10_sign_45 ?_
          refine z_goto (tgt := 50) dX10_sign_46 (by decide) ?_
          obtain ⟨rfl, rfl⟩ := z_end hf
          exact z_iret ⟨rfl, rfl, rfl⟩ (Or.inl rfl) dX10_sign_50
noncomputable def f_X10_isOver (x0 : Nat) (M : zM) : Option (Int32 × zM) :=
  (if (M.1 x0 4) = 0 then (if (M.1 x0 3) < (M.1 x0 2) then some (0, M) else some (1, M)) else some (1, M))
set_option maxHeartbeats 2000000 in
set_option maxRecDepth 20000 in
theorem t_X10_isOver {l : Launch} {x0 : Nat} {M MO : zM} {v : Int32} (h0 : z_tm SH 9 x0) (hf : f_X10_isOver x0 M = some (v, MO)) : zMet l yX10_isOver cX10_isOver 1 (some .boolean) 1 0 0 [.ref x0] SH M (zDi SH v MO) := by
  refine zMet.of (by decide +kernel) (Nat.le_of_ble_eq_true rfl) (Or.inr (Or.inr (Or.inl rfl))) ?_
  show zA l yX10_isOver cX10_isOver 1 (some .boolean) 1 0 0 SH.length (zDi SH v MO) 0 0 0 [(0, .ref x0)] [] SH M
  unfold f_X10_isOver at hf
  refine z_aload_n dX10_isOver_0 rfl rfl ?_
  refine zgI fl_X10_31 h0 (fun _ => rfl) dX10_isOver_1 ?_
  refine z_if_ne (tgt := 18) dX10_isOver_4 (by decide) (fun q_1 => ?_) (fun q_1 => ?_)
  · have hf := (if_neg q_1).symm.trans hf
    refine z_iconst (v := 1) dX10_isOver_18 (by decide) ?_
    refine z_goto (tgt := 23) dX10_isOver_19 (by decide) ?_
    obtain ⟨rfl, rfl⟩ := z_end hf
    exact z_iret ⟨rfl, rfl, rfl⟩ (Or.inr ⟨rfl, (Or.inr rfl)⟩) dX10_isOver_23
  · have hf := (if_pos q_1).symm.trans hf
    refine z_aload_n dX10_isOver_7 rfl rfl ?_
    refine zgI fl_X10_28 h0 (fun _ => rfl) dX10_isOver_8 ?_
    refine z_aload_n dX10_isOver_11 rfl rfl ?_
    refine zgI fl_X10_25 h0 (fun _ => rfl) dX10_isOver_12 ?_
    refine z_icmp_lt (tgt := 22) dX10_isOver_15 (by decide) (fun q_2 => ?_) (fun q_2 => ?_)
    · have hf := (if_pos q_2).symm.trans hf
      refine z_iconst (v := 0) dX10_isOver_22 (by decide) ?_
      obtain ⟨rfl, rfl⟩ := z_end hf
      exact z_iret ⟨rfl, rfl, rfl⟩ (Or.inr ⟨rfl, (Or.inl rfl)⟩) dX10_isOver_23
    · have hf := (if_neg q_2).symm.trans hf
      refine z_iconst (v := 1) dX10_isOver_18 (by decide) ?_
      refine z_goto (tgt := 23) dX10_isOver_19 (by decide) ?_
      obtain ⟨rfl, rfl⟩ := z_end hf
      exact z_iret ⟨rfl, rfl, rfl⟩ (Or.inr ⟨rfl, (Or.inr rfl)⟩) dX10_isOver_23
noncomputable def f_X10_isFaulty (x0 : Nat) (M : zM) : Option (Int32 × zM) :=
  (if (M.1 x0 4) = 0 then some (0, M) else some (1, M))
set_option maxHeartbeats 2000000 in
set_option maxRecDepth 20000 in
theorem t_X10_isFaulty {l : Launch} {x0 : Nat} {M MO : zM} {v : Int32} (h0 : z_tm SH 9 x0) (hf : f_X10_isFaulty x0 M = some (v, MO)) : zMet l yX10_isFaulty cX10_isFaulty 1 (some .boolean) 1 0 0 [.ref x0] SH M (zDi SH v MO) := by
  refine zMet.of (by decide +kernel) (Nat.le_of_ble_eq_true rfl) (Or.inr (Or.inr (Or.inl rfl))) ?_
  show zA l yX10_isFaulty cX10_isFaulty 1 (some .boolean) 1 0 0 SH.length (zDi SH v MO) 0 0 0 [(0, .ref x0)] [] SH M
  unfold f_X10_isFaulty at hf
  refine z_aload_n dX10_isFaulty_0 rfl rfl ?_
  refine zgI fl_X10_31 h0 (fun _ => rfl) dX10_isFaulty_1 ?_
  refine z_if_eq (tgt := 11) dX10_isFaulty_4 (by decide) (fun q_1 => ?_) (fun q_1 => ?_)
  · have hf := (if_pos q_1).symm.trans hf
    refine z_iconst (v := 0) dX10_isFaulty_11 (by decide) ?_
    obtain ⟨rfl, rfl⟩ := z_end hf
    exact z_iret ⟨rfl, rfl, rfl⟩ (Or.inr ⟨rfl, (Or.inl rfl)⟩) dX10_isFaulty_12
  · have hf := (if_neg q_1).symm.trans hf
    refine z_iconst (v := 1) dX10_isFaulty_7 (by decide) ?_
    refine z_goto (tgt := 12) dX10_isFaulty_8 (by decide) ?_
    obtain ⟨rfl, rfl⟩ := z_end hf
    exact z_iret ⟨rfl, rfl, rfl⟩ (Or.inr ⟨rfl, (Or.inr rfl)⟩) dX10_isFaulty_12
noncomputable def f_X10_step (x0 : Nat) (M : zM) : Option (Unit × zM) :=
  zl (zu M.1 x0 3 ((M.1 x0 3) + 1), M.2) fun M_1 => some ((), M_1)
set_option maxHeartbeats 2000000 in
set_option maxRecDepth 20000 in
theorem t_X10_step {l : Launch} {x0 : Nat} {M MO : zM} {v : Unit} (h0 : z_tm SH 9 x0) (hf : f_X10_step x0 M = some (v, MO)) : zMet l yX10_step cX10_step 1 none 1 0 0 [.ref x0] SH M (zDv SH MO) := by
  refine zMet.of (by decide +kernel) (Nat.le_of_ble_eq_true rfl) (Or.inl rfl) ?_
  show zA l yX10_step cX10_step 1 none 1 0 0 SH.length (zDv SH MO) 0 0 0 [(0, .ref x0)] [] SH M
  unfold f_X10_step at hf
  refine z_aload_n dX10_step_0 rfl rfl ?_
  refine z_dup dX10_step_1 rfl ?_
  refine zgI fl_X10_28 h0 (fun _ => rfl) dX10_step_2 ?_
  refine z_iconst (v := 1) dX10_step_5 (by decide) ?_
  refine z_iadd dX10_step_6 ?_
  obtain ⟨M_1, eM_1, hf⟩ := zl_some hf
  refine zpI fl_X10_28 h0 rfl (Or.inl rfl) eM_1 dX10_step_7 ?_
  obtain ⟨rfl, rfl⟩ := z_end hf
  exact z_vret ⟨rfl, rfl, rfl⟩ rfl dX10_step_10
noncomputable def f_X10_failAt (x0 : Nat) (x1 : Int32) (x2 : Int32) (M : zM) : Option (Unit × zM) :=
  (if (M.1 x0 4) = 0 then zl (zu M.1 x0 4 (((-1000) * x1) - x2), M.2) fun M_2 => some ((), M_2) else some ((), M))
set_option maxHeartbeats 2000000 in
set_option maxRecDepth 20000 in
theorem t_X10_failAt {l : Launch} {x0 : Nat} {x1 : Int32} {x2 : Int32} {M MO : zM} {v : Unit} (h0 : z_tm SH 9 x0) (hf : f_X10_failAt x0 x1 x2 M = some (v, MO)) : zMet l yX10_failAt cX10_failAt 3 none 1 0 0 [.ref x0, .int x1, .int x2] SH M (zDv SH MO) := by
  refine zMet.of (by decide +kernel) (Nat.le_of_ble_eq_true rfl) (Or.inl rfl) ?_
  show zA l yX10_failAt cX10_failAt 3 none 1 0 0 SH.length (zDv SH MO) 0 0 0 [(0, .ref x0), (1, .int x1), (2, .int x2)] [] SH M
  unfold f_X10_failAt at hf
  refine z_aload_n dX10_failAt_0 rfl rfl ?_
  refine zgI fl_X10_31 h0 (fun _ => rfl) dX10_failAt_1 ?_
  refine z_if_ne (tgt := 18) dX10_failAt_4 (by decide) (fun q_1 => ?_) (fun q_1 => ?_)
  · have hf := (if_neg q_1).symm.trans hf
    obtain ⟨rfl, rfl⟩ := z_end hf
    exact z_vret ⟨rfl, rfl, rfl⟩ rfl dX10_failAt_18
  · have hf := (if_pos q_1).symm.trans hf
    refine z_aload_n dX10_failAt_7 rfl rfl ?_
    refine z_sipush (v := (-1000)) dX10_failAt_8 (by decide) ?_
    refine z_iload_n dX10_failAt_11 rfl rfl ?_
    refine z_imul dX10_failAt_12 ?_
    refine z_iload_n dX10_failAt_13 rfl rfl ?_
    refine z_isub dX10_failAt_14 ?_
    obtain ⟨M_2, eM_2, hf⟩ := zl_some hf
    refine zpI fl_X10_31 h0 rfl (Or.inl rfl) eM_2 dX10_failAt_15 ?_
    obtain ⟨rfl, rfl⟩ := z_end hf
    exact z_vret ⟨rfl, rfl, rfl⟩ rfl dX10_failAt_18
noncomputable def f_X10_expect (x0 : Nat) (x1 : Int32) (M : zM) : Option (Unit × zM) :=
  z_call (f_X10_sign x0 M) fun v_1 M_2 => (if v_1 = x1 then z_call (f_X10_step x0 M_2) fun v_8 M_9 => some ((), M_9) else z_call (f_X10_failAt x0 1 (M_2.1 x0 3) M_2) fun v_5 M_6 => some ((), M_6))
set_option maxHeartbeats 2000000 in
set_option maxRecDepth 20000 in
theorem t_X10_expect {l : Launch} {x0 : Nat} {x1 : Int32} {M MO : zM} {v : Unit} (h0 : z_tm SH 9 x0) (hf : f_X10_expect x0 x1 M = some (v, MO)) : zMet l yX10_expect cX10_expect 2 none 2 0 0 [.ref x0, .int x1] SH M (zDv SH MO) := by
  refine zMet.of (by decide +kernel) (Nat.le_of_ble_eq_true rfl) (Or.inl rfl) ?_
  show zA l yX10_expect cX10_expect 2 none 2 0 0 SH.length (zDv SH MO) 0 0 0 [(0, .ref x0), (1, .int x1)] [] SH M
  unfold f_X10_expect at hf
  refine z_aload_n dX10_expect_0 rfl rfl ?_
  obtain ⟨v_1, M_2, c_3, hf⟩ := z_call_some hf
  refine z_cVi (t_X10_sign h0 c_3) kw_X10_sign lk_X10_34 h0 rfl (by decide) rfl (Nat.le_of_ble_eq_true rfl) ⟨Nat.le_refl 0, Nat.le_refl 0⟩ dX10_expect_1 ?_
  refine z_iload_n dX10_expect_4 rfl rfl ?_
  refine z_icmp_ne (tgt := 15) dX10_expect_5 (by decide) (fun q_4 => ?_) (fun q_4 => ?_)
  · have hf := (if_neg q_4).symm.trans hf
    refine z_aload_n dX10_expect_15 rfl rfl ?_
    refine z_iconst (v := 1) dX10_expect_16 (by decide) ?_
    refine z_aload_n dX10_expect_17 rfl rfl ?_
    refine zgI fl_X10_28 h0 (fun _ => rfl) dX10_expect_18 ?_
    obtain ⟨v_5, M_6, c_7, hf⟩ := z_call_some hf
    refine z_cVv (t_X10_failAt h0 c_7) kw_X10_failAt lk_X10_41 h0 rfl (by decide) rfl (Nat.le_of_ble_eq_true rfl) ⟨Nat.le_refl 0, Nat.le_refl 0⟩ dX10_expect_21 ?_
    obtain ⟨rfl, rfl⟩ := z_end hf
    exact z_vret ⟨rfl, rfl, rfl⟩ rfl dX10_expect_24
  · have hf := (if_pos q_4).symm.trans hf
    refine z_aload_n dX10_expect_8 rfl rfl ?_
    obtain ⟨v_8, M_9, c_10, hf⟩ := z_call_some hf
    refine z_cVv (t_X10_step h0 c_10) kw_X10_step lk_X10_38 h0 rfl (by decide) rfl (Nat.le_of_ble_eq_true rfl) ⟨Nat.le_refl 0, Nat.le_refl 0⟩ dX10_expect_9 ?_
    refine z_goto (tgt := 24) dX10_expect_12 (by decide) ?_
    obtain ⟨rfl, rfl⟩ := z_end hf
    exact z_vret ⟨rfl, rfl, rfl⟩ rfl dX10_expect_24
noncomputable def f_X10_isDigit (x0 : Int32) (M : zM) : Option (Int32 × zM) :=
  (if x0 < 48 then some (0, M) else (if 57 < x0 then some (0, M) else some (1, M)))
set_option maxHeartbeats 2000000 in
set_option maxRecDepth 20000 in
theorem t_X10_isDigit {l : Launch} {x0 : Int32} {M MO : zM} {v : Int32} (hf : f_X10_isDigit x0 M = some (v, MO)) : zMet l yX10_isDigit cX10_isDigit 1 (some .boolean) 1 0 0 [.int x0] SH M (zDi SH v MO) := by
  refine zMet.of (by decide +kernel) (Nat.le_of_ble_eq_true rfl) (Or.inr (Or.inr (Or.inl rfl))) ?_
  show zA l yX10_isDigit cX10_isDigit 1 (some .boolean) 1 0 0 SH.length (zDi SH v MO) 0 0 0 [(0, .int x0)] [] SH M
  unfold f_X10_isDigit at hf
  refine z_iload_n dX10_isDigit_0 rfl rfl ?_
  refine z_bipush (v := 48) dX10_isDigit_1 (by decide) ?_
  refine z_icmp_lt (tgt := 16) dX10_isDigit_3 (by decide) (fun q_1 => ?_) (fun q_1 => ?_)
  · have hf := (if_pos q_1).symm.trans hf
    refine z_iconst (v := 0) dX10_isDigit_16 (by decide) ?_
    obtain ⟨rfl, rfl⟩ := z_end hf
    exact z_iret ⟨rfl, rfl, rfl⟩ (Or.inr ⟨rfl, (Or.inl rfl)⟩) dX10_isDigit_17
  · have hf := (if_neg q_1).symm.trans hf
    refine z_iload_n dX10_isDigit_6 rfl rfl ?_
    refine z_bipush (v := 57) dX10_isDigit_7 (by decide) ?_
    refine z_icmp_gt (tgt := 16) dX10_isDigit_9 (by decide) (fun q_2 => ?_) (fun q_2 => ?_)
    · have hf := (if_pos q_2).symm.trans hf
      refine z_iconst (v := 0) dX10_isDigit_16 (by decide) ?_
      obtain ⟨rfl, rfl⟩ := z_end hf
      exact z_iret ⟨rfl, rfl, rfl⟩ (Or.inr ⟨rfl, (Or.inl rfl)⟩) dX10_isDigit_17
    · have hf := (if_neg q_2).symm.trans hf
      refine z_iconst (v := 1) dX10_isDigit_12 (by decide) ?_
      refine z_goto (tgt := 17) dX10_isDigit_13 (by decide) ?_
      obtain ⟨rfl, rfl⟩ := z_end hf
      exact z_iret ⟨rfl, rfl, rfl⟩ (Or.inr ⟨rfl, (Or.inr rfl)⟩) dX10_isDigit_17
noncomputable def f_X10_number_63 (x0 : Nat) (x2 : Int32) (M : zM) : Option (Int32 × zM) :=
  z_call (f_X10_sign x0 M) fun v_1 M_2 => z_call (f_X10_isDigit v_1 M_2) fun v_4 M_5 => (if v_4 = 0 then some (x2, M_5) else z_call (f_X10_failAt x0 2 (M_5.1 x0 3) M_5) fun v_8 M_9 => some ((-1), M_9))
set_option maxHeartbeats 2000000 in
set_option maxRecDepth 20000 in
theorem t_X10_number_63 {l : Launch} {x0 : Nat} {x2 : Int32} {M MO : zM} {v : Int32} (h0 : z_tm SH 9 x0) (hf : f_X10_number_63 x0 x2 M = some (v, MO)) : zA l yX10_number cX10_number 4 (some .int) 2 0 0 SH.length (zDi SH v MO) 0 0 63 [(0, .ref x0), (2, .int x2)] [] SH M := by
  unfold f_X10_number_63 at hf
  refine z_aload_n dX10_number_63 rfl rfl ?_
  obtain ⟨v_1, M_2, c_3, hf⟩ := z_call_some hf
  refine z_cVi (t_X10_sign h0 c_3) kw_X10_sign lk_X10_34 h0 rfl (by decide) rfl (Nat.le_of_ble_eq_true rfl) ⟨Nat.le_refl 0, Nat.le_refl 0⟩ dX10_number_64 ?_
  obtain ⟨v_4, M_5, c_6, hf⟩ := z_call_some hf
  refine z_cSi (t_X10_isDigit  c_6) kw_X10_isDigit lk_X10_45 rfl (by decide) rfl (Nat.le_of_ble_eq_true rfl) ⟨Nat.le_refl 0, Nat.le_refl 0⟩ dX10_number_67 ?_
  refine z_if_eq (tgt := 84) dX10_number_70 (by decide) (fun q_7 => ?_) (fun q_7 => ?_)
  · have hf := (if_pos q_7).symm.trans hf
    refine z_iload_n dX10_number_84 rfl rfl ?_
    obtain ⟨rfl, rfl⟩ := z_end hf
    exact z_iret ⟨rfl, rfl, rfl⟩ (Or.inl rfl) dX10_number_85
  · have hf := (if_neg q_7).symm.trans hf
    refine z_aload_n dX10_number_73 rfl rfl ?_
    refine z_iconst (v := 2) dX10_number_74 (by decide) ?_
    refine z_aload_n dX10_number_75 rfl rfl ?_
    refine zgI fl_X10_28 h0 (fun _ => rfl) dX10_number_76 ?_
    obtain ⟨v_8, M_9, c_10, hf⟩ := z_call_some hf
    refine z_cVv (t_X10_failAt h0 c_10) kw_X10_failAt lk_X10_41 h0 rfl (by decide) rfl (Nat.le_of_ble_eq_true rfl) ⟨Nat.le_refl 0, Nat.le_refl 0⟩ dX10_number_79 ?_
    refine z_iconst (v := (-1)) dX10_number_82 (by decide) ?_
    obtain ⟨rfl, rfl⟩ := z_end hf
    exact z_iret ⟨rfl, rfl, rfl⟩ (Or.inl rfl) dX10_number_83
noncomputable def f_X10_number_25 (x0 : Nat) (x1 : Int32) : Nat → Int32 → Int32 → zM → Option (Int32 × zM)
  | 0, _, _, _ => none
  | n + 1, x2, x3, M =>
    (if x1 ≤ x3 then (f_X10_number_63 x0 x2 M) else z_call (f_X10_sign x0 M) fun v_2 M_3 => z_call (f_X10_isDigit v_2 M_3) fun v_5 M_6 => (if v_5 = 0 then (f_X10_number_63 x0 x2 M_6) else z_call (f_X10_sign x0 M_6) fun v_9 M_10 => zl ((((x2 * 10) + v_9) - 48)) fun x2_12 => z_call (f_X10_step x0 M_10) fun v_13 M_14 => zl (x3 + 1) fun x3_16 => (f_X10_number_25 x0 x1 n x2_12 x3_16 M_14)))
set_option maxHeartbeats 2000000 in
set_option maxRecDepth 20000 in
theorem t_X10_number_25 {l : Launch} {x0 : Nat} {x1 : Int32} {MO : zM} {v : Int32} (h0 : z_tm SH 9 x0) : ∀ (n : Nat) (x2 : Int32) (x3 : Int32) (M : zM), f_X10_number_25 x0 x1 n x2 x3 M = some (v, MO) → zA l yX10_number cX10_number 4 (some .int) 2 0 0 SH.length (zDi SH v MO) 0 0 25 [(0, .ref x0), (1, .int x1), (2, .int x2), (3, .int x3)] [] SH M := by
  intro n
  induction n with
  | zero =>
    intro x2 x3 M hf
    rw [f_X10_number_25] at hf
    cases hf
  | succ n ih =>
    intro x2 x3 M hf
    rw [f_X10_number_25] at hf
    refine z_iload_n dX10_number_25 rfl rfl ?_
    refine z_iload_n dX10_number_26 rfl rfl ?_
    refine z_icmp_ge (tgt := 63) dX10_number_27 (by decide) (fun q_1 => ?_) (fun q_1 => ?_)
    · have hf := (if_pos q_1).symm.trans hf
      refine zA.pick [(0, .ref x0), (2, .int x2)] [0, 2] rfl ?_
      exact t_X10_number_63 h0 hf
    · have hf := (if_neg q_1).symm.trans hf
      refine z_aload_n dX10_number_30 rfl rfl ?_
      obtain ⟨v_2, M_3, c_4, hf⟩ := z_call_some hf
      refine z_cVi (t_X10_sign h0 c_4) kw_X10_sign lk_X10_34 h0 rfl (by decide) rfl (Nat.le_of_ble_eq_true rfl) ⟨Nat.le_refl 0, Nat.le_refl 0⟩ dX10_number_31 ?_
      obtain ⟨v_5, M_6, c_7, hf⟩ := z_call_some hf
      refine z_cSi (t_X10_isDigit  c_7) kw_X10_isDigit lk_X10_45 rfl (by decide) rfl (Nat.le_of_ble_eq_true rfl) ⟨Nat.le_refl 0, Nat.le_refl 0⟩ dX10_number_34 ?_
      refine z_if_eq (tgt := 63) dX10_number_37 (by decide) (fun q_8 => ?_) (fun q_8 => ?_)
      · have hf := (if_pos q_8).symm.trans hf
        refine zA.pick [(0, .ref x0), (2, .int x2)] [0, 2] rfl ?_
        exact t_X10_number_63 h0 hf
      · have hf := (if_neg q_8).symm.trans hf
        refine z_iload_n dX10_number_40 rfl rfl ?_
        refine z_bipush (v := 10) dX10_number_41 (by decide) ?_
        refine z_imul dX10_number_43 ?_
        refine z_aload_n dX10_number_44 rfl rfl ?_
        obtain ⟨v_9, M_10, c_11, hf⟩ := z_call_some hf
        refine z_cVi (t_X10_sign h0 c_11) kw_X10_sign lk_X10_34 h0 rfl (by decide) rfl (Nat.le_of_ble_eq_true rfl) ⟨Nat.le_refl 0, Nat.le_refl 0⟩ dX10_number_45 ?_
        refine z_iadd dX10_number_48 ?_
        refine z_bipush (v := 48) dX10_number_49 (by decide) ?_
        refine z_isub dX10_number_51 ?_
        obtain ⟨x2_12, ex2_12, hf⟩ := zl_some hf
        refine z_istore_n' (lv' := [(2, .int x2_12), (0, .ref x0), (1, .int x1), (3, .int x3)]) rfl dX10_number_52 (by decide) ex2_12 rfl ?_
        refine z_aload_n dX10_number_53 rfl rfl ?_
        obtain ⟨v_13, M_14, c_15, hf⟩ := z_call_some hf
        refine z_cVv (t_X10_step h0 c_15) kw_X10_step lk_X10_38 h0 rfl (by decide) rfl (Nat.le_of_ble_eq_true rfl) ⟨Nat.le_refl 0, Nat.le_refl 0⟩ dX10_number_54 ?_
        obtain ⟨x3_16, ex3_16, hf⟩ := zl_some hf
        refine z_iinc' (lv' := [(3, .int x3_16), (2, .int x2_12), (0, .ref x0), (1, .int x1)]) dX10_number_57 rfl (by decide) ex3_16 (by decide) rfl ?_
        refine z_goto (tgt := 25) dX10_number_60 (by decide) ?_
        refine zA.pick [(0, .ref x0), (1, .int x1), (2, .int x2_12), (3, .int x3_16)] [2, 3, 1, 0] rfl ?_
        exact ih x2_12 x3_16 M_14 hf
noncomputable def f_X10_number (x0 : Nat) (x1 : Int32) (M : zM) : Option (Int32 × zM) :=
  z_call (f_X10_sign x0 M) fun v_1 M_2 => z_call (f_X10_isDigit v_1 M_2) fun v_4 M_5 => (if v_4 = 0 then z_call (f_X10_failAt x0 1 (M_5.1 x0 3) M_5) fun v_8 M_9 => some ((-1), M_9) else (f_X10_number_25 x0 x1 zF 0 0 M_5))
set_option maxHeartbeats 2000000 in
set_option maxRecDepth 20000 in
theorem t_X10_number {l : Launch} {x0 : Nat} {x1 : Int32} {M MO : zM} {v : Int32} (h0 : z_tm SH 9 x0) (hf : f_X10_number x0 x1 M = some (v, MO)) : zMet l yX10_number cX10_number 4 (some .int) 2 0 0 [.ref x0, .int x1] SH M (zDi SH v MO) := by
  refine zMet.of (by decide +kernel) (Nat.le_of_ble_eq_true rfl) (Or.inr (Or.inl rfl)) ?_
  show zA l yX10_number cX10_number 4 (some .int) 2 0 0 SH.length (zDi SH v MO) 0 0 0 [(0, .ref x0), (1, .int x1)] [] SH M
  unfold f_X10_number at hf
  refine z_aload_n dX10_number_0 rfl rfl ?_
  obtain ⟨v_1, M_2, c_3, hf⟩ := z_call_some hf
  refine z_cVi (t_X10_sign h0 c_3) kw_X10_sign lk_X10_34 h0 rfl (by decide) rfl (Nat.le_of_ble_eq_true rfl) ⟨Nat.le_refl 0, Nat.le_refl 0⟩ dX10_number_1 ?_
  obtain ⟨v_4, M_5, c_6, hf⟩ := z_call_some hf
  refine z_cSi (t_X10_isDigit  c_6) kw_X10_isDigit lk_X10_45 rfl (by decide) rfl (Nat.le_of_ble_eq_true rfl) ⟨Nat.le_refl 0, Nat.le_refl 0⟩ dX10_number_4 ?_
  refine z_if_ne (tgt := 21) dX10_number_7 (by decide) (fun q_7 => ?_) (fun q_7 => ?_)
  · have hf := (if_neg q_7).symm.trans hf
    refine z_iconst (v := 0) dX10_number_21 (by decide) ?_
    refine z_istore_n' (lv' := [(2, .int 0), (0, .ref x0), (1, .int x1)]) rfl dX10_number_22 (by decide) rfl rfl ?_
    refine z_iconst (v := 0) dX10_number_23 (by decide) ?_
    refine z_istore_n' (lv' := [(3, .int 0), (2, .int 0), (0, .ref x0), (1, .int x1)]) rfl dX10_number_24 (by decide) rfl rfl ?_
    refine zA.pick [(0, .ref x0), (1, .int x1), (2, .int 0), (3, .int 0)] [2, 3, 1, 0] rfl ?_
    exact t_X10_number_25 h0 zF 0 0 M_5 hf
  · have hf := (if_pos q_7).symm.trans hf
    refine z_aload_n dX10_number_10 rfl rfl ?_
    refine z_iconst (v := 1) dX10_number_11 (by decide) ?_
    refine z_aload_n dX10_number_12 rfl rfl ?_
    refine zgI fl_X10_28 h0 (fun _ => rfl) dX10_number_13 ?_
    obtain ⟨v_8, M_9, c_10, hf⟩ := z_call_some hf
    refine z_cVv (t_X10_failAt h0 c_10) kw_X10_failAt lk_X10_41 h0 rfl (by decide) rfl (Nat.le_of_ble_eq_true rfl) ⟨Nat.le_refl 0, Nat.le_refl 0⟩ dX10_number_16 ?_
    refine z_iconst (v := (-1)) dX10_number_19 (by decide) ?_
    obtain ⟨rfl, rfl⟩ := z_end hf
    exact z_iret ⟨rfl, rfl, rfl⟩ (Or.inl rfl) dX10_number_20
noncomputable def f_X8_copyFrom (x0 : Nat) (x1 : Nat) (M : zM) : Option (Unit × zM) :=
  z_rd (M.2.1 x1 0) fun a_1 => z_rd (M.2.1 x0 0) fun a_2 => if (0 : Int32).toNatClampNeg + (24 : Int32).toNatClampNeg ≤ z_ln SH a_1 then if (0 : Int32).toNatClampNeg + (24 : Int32).toNatClampNeg ≤ z_ln SH a_2 then zl (va_up M.1 a_2 (va_cpy (M.1 a_1) (M.1 a_2) (0 : Int32).toNatClampNeg (0 : Int32).toNatClampNeg (24 : Int32).toNatClampNeg), M.2) fun M_5 => z_rd (M_5.2.1 x1 1) fun a_6 => z_rd (M_5.2.1 x0 1) fun a_7 => if (0 : Int32).toNatClampNeg + (24 : Int32).toNatClampNeg ≤ z_ln SH a_6 then if (0 : Int32).toNatClampNeg + (24 : Int32).toNatClampNeg ≤ z_ln SH a_7 then zl (va_up M_5.1 a_7 (va_cpy (M_5.1 a_6) (M_5.1 a_7) (0 : Int32).toNatClampNeg (0 : Int32).toNatClampNeg (24 : Int32).toNatClampNeg), M_5.2) fun M_10 => z_rd (M_10.2.1 x1 2) fun a_11 => z_rd (M_10.2.1 x0 2) fun a_12 => if (0 : Int32).toNatClampNeg + (24 : Int32).toNatClampNeg ≤ z_ln SH a_11 then if (0 : Int32).toNatClampNeg + (24 : Int32).toNatClampNeg ≤ z_ln SH a_12 then zl (va_up M_10.1 a_12 (va_cpy (M_10.1 a_11) (M_10.1 a_12) (0 : Int32).toNatClampNeg (0 : Int32).toNatClampNeg (24 : Int32).toNatClampNeg), M_10.2) fun M_15 => z_rd (M_15.2.1 x1 3) fun a_16 => z_rd (M_15.2.1 x0 3) fun a_17 => if (0 : Int32).toNatClampNeg + (576 : Int32).toNatClampNeg ≤ z_ln SH a_16 then if (0 : Int32).toNatClampNeg + (576 : Int32).toNatClampNeg ≤ z_ln SH a_17 then zl (va_up M_15.1 a_17 (va_cpy (M_15.1 a_16) (M_15.1 a_17) (0 : Int32).toNatClampNeg (0 : Int32).toNatClampNeg (576 : Int32).toNatClampNeg), M_15.2) fun M_20 => z_rd (M_20.2.1 x1 4) fun a_21 => z_rd (M_20.2.1 x0 4) fun a_22 => if (0 : Int32).toNatClampNeg + (24 : Int32).toNatClampNeg ≤ z_ln SH a_21 then if (0 : Int32).toNatClampNeg + (24 : Int32).toNatClampNeg ≤ z_ln SH a_22 then zl (va_up M_20.1 a_22 (va_cpy (M_20.1 a_21) (M_20.1 a_22) (0 : Int32).toNatClampNeg (0 : Int32).toNatClampNeg (24 : Int32).toNatClampNeg), M_20.2) fun M_25 => zl (zu M_25.1 x0 5 (M_25.1 x1 5), M_25.2) fun M_26 => zl (zu M_26.1 x0 6 (M_26.1 x1 6), M_26.2) fun M_27 => zl (zu M_27.1 x0 7 (M_27.1 x1 7), M_27.2) fun M_28 => zl (zu M_28.1 x0 8 (M_28.1 x1 8), M_28.2) fun M_29 => zl (zu M_29.1 x0 9 (M_29.1 x1 9), M_29.2) fun M_30 => some ((), M_30) else none else none else none else none else none else none else none else none else none else none
set_option maxHeartbeats 2000000 in
set_option maxRecDepth 20000 in
theorem t_X8_copyFrom {l : Launch} {x0 : Nat} {x1 : Nat} {M MO : zM} {v : Unit} (h0 : z_tm SH 8 x0) (h1 : z_tm SH 8 x1) (hf : f_X8_copyFrom x0 x1 M = some (v, MO)) : zMet l yX8_copyFrom cX8_copyFrom 2 none 1 0 0 [.ref x0, .ref x1] SH M (zDv SH MO) := by
  refine zMet.of (by decide +kernel) (Nat.le_of_ble_eq_true rfl) (Or.inl rfl) ?_
  show zA l yX8_copyFrom cX8_copyFrom 2 none 1 0 0 SH.length (zDv SH MO) 0 0 0 [(0, .ref x0), (1, .ref x1)] [] SH M
  unfold f_X8_copyFrom at hf
  refine z_aload_n dX8_copyFrom_0 rfl rfl ?_
  obtain ⟨a_1, ra_1, hf⟩ := z_rd_some hf
  refine zgR fl_X8_9 h1 (fun _ => rfl) ra_1 dX8_copyFrom_1 (fun ha_1 => ?_)
  refine z_iconst (v := 0) dX8_copyFrom_4 (by decide) ?_
  refine z_aload_n dX8_copyFrom_5 rfl rfl ?_
  obtain ⟨a_2, ra_2, hf⟩ := z_rd_some hf
  refine zgR fl_X8_9 h0 (fun _ => rfl) ra_2 dX8_copyFrom_6 (fun ha_2 => ?_)
  refine z_iconst (v := 0) dX8_copyFrom_9 (by decide) ?_
  refine z_bipush (v := 24) dX8_copyFrom_10 (by decide) ?_
  obtain ⟨g_3, hf⟩ := z_ifs hf
  obtain ⟨g_4, hf⟩ := z_ifs hf
  obtain ⟨M_5, eM_5, hf⟩ := zl_some hf
  refine z_copy ac_X8_41 ac_nat ac_sta ac_ini ha_1 ha_2 (by decide) (by decide) (by decide) g_3 g_4 (by decide) (Nat.le_of_ble_eq_true rfl) eM_5 dX8_copyFrom_12 ?_
  refine z_aload_n dX8_copyFrom_15 rfl rfl ?_
  obtain ⟨a_6, ra_6, hf⟩ := z_rd_some hf
  refine zgR fl_X8_15 h1 (fun _ => rfl) ra_6 dX8_copyFrom_16 (fun ha_6 => ?_)
  refine z_iconst (v := 0) dX8_copyFrom_19 (by decide) ?_
  refine z_aload_n dX8_copyFrom_20 rfl rfl ?_
  obtain ⟨a_7, ra_7, hf⟩ := z_rd_some hf
  refine zgR fl_X8_15 h0 (fun _ => rfl) ra_7 dX8_copyFrom_21 (fun ha_7 => ?_)
  refine z_iconst (v := 0) dX8_copyFrom_24 (by decide) ?_
  refine z_bipush (v := 24) dX8_copyFrom_25 (by decide) ?_
  obtain ⟨g_8, hf⟩ := z_ifs hf
  obtain ⟨g_9, hf⟩ := z_ifs hf
  obtain ⟨M_10, eM_10, hf⟩ := zl_some hf
  refine z_copy ac_X8_41 ac_nat ac_sta ac_ini ha_6 ha_7 (by decide) (by decide) (by decide) g_8 g_9 (by decide) (Nat.le_of_ble_eq_true rfl) eM_10 dX8_copyFrom_27 ?_
  refine z_aload_n dX8_copyFrom_30 rfl rfl ?_
  obtain ⟨a_11, ra_11, hf⟩ := z_rd_some hf
  refine zgR fl_X8_24 h1 (fun _ => rfl) ra_11 dX8_copyFrom_31 (fun ha_11 => ?_)
  refine z_iconst (v := 0) dX8_copyFrom_34 (by decide) ?_
  refine z_aload_n dX8_copyFrom_35 rfl rfl ?_
  obtain ⟨a_12, ra_12, hf⟩ := z_rd_some hf
  refine zgR fl_X8_24 h0 (fun _ => rfl) ra_12 dX8_copyFrom_36 (fun ha_12 => ?_)
  refine z_iconst (v := 0) dX8_copyFrom_39 (by decide) ?_
  refine z_bipush (v := 24) dX8_copyFrom_40 (by decide) ?_
  obtain ⟨g_13, hf⟩ := z_ifs hf
  obtain ⟨g_14, hf⟩ := z_ifs hf
  obtain ⟨M_15, eM_15, hf⟩ := zl_some hf
  refine z_copy ac_X8_41 ac_nat ac_sta ac_ini ha_11 ha_12 (by decide) (by decide) (by decide) g_13 g_14 (by decide) (Nat.le_of_ble_eq_true rfl) eM_15 dX8_copyFrom_42 ?_
  refine z_aload_n dX8_copyFrom_45 rfl rfl ?_
  obtain ⟨a_16, ra_16, hf⟩ := z_rd_some hf
  refine zgR fl_X8_27 h1 (fun _ => rfl) ra_16 dX8_copyFrom_46 (fun ha_16 => ?_)
  refine z_iconst (v := 0) dX8_copyFrom_49 (by decide) ?_
  refine z_aload_n dX8_copyFrom_50 rfl rfl ?_
  obtain ⟨a_17, ra_17, hf⟩ := z_rd_some hf
  refine zgR fl_X8_27 h0 (fun _ => rfl) ra_17 dX8_copyFrom_51 (fun ha_17 => ?_)
  refine z_iconst (v := 0) dX8_copyFrom_54 (by decide) ?_
  refine z_sipush (v := 576) dX8_copyFrom_55 (by decide) ?_
  obtain ⟨g_18, hf⟩ := z_ifs hf
  obtain ⟨g_19, hf⟩ := z_ifs hf
  obtain ⟨M_20, eM_20, hf⟩ := zl_some hf
  refine z_copy ac_X8_41 ac_nat ac_sta ac_ini ha_16 ha_17 (by decide) (by decide) (by decide) g_18 g_19 (by decide) (Nat.le_of_ble_eq_true rfl) eM_20 dX8_copyFrom_58 ?_
  refine z_aload_n dX8_copyFrom_61 rfl rfl ?_
  obtain ⟨a_21, ra_21, hf⟩ := z_rd_some hf
  refine zgR fl_X8_30 h1 (fun _ => rfl) ra_21 dX8_copyFrom_62 (fun ha_21 => ?_)
  refine z_iconst (v := 0) dX8_copyFrom_65 (by decide) ?_
  refine z_aload_n dX8_copyFrom_66 rfl rfl ?_
  obtain ⟨a_22, ra_22, hf⟩ := z_rd_some hf
  refine zgR fl_X8_30 h0 (fun _ => rfl) ra_22 dX8_copyFrom_67 (fun ha_22 => ?_)
  refine z_iconst (v := 0) dX8_copyFrom_70 (by decide) ?_
  refine z_bipush (v := 24) dX8_copyFrom_71 (by decide) ?_
  obtain ⟨g_23, hf⟩ := z_ifs hf
  obtain ⟨g_24, hf⟩ := z_ifs hf
  obtain ⟨M_25, eM_25, hf⟩ := zl_some hf
  refine z_copy ac_X8_41 ac_nat ac_sta ac_ini ha_21 ha_22 (by decide) (by decide) (by decide) g_23 g_24 (by decide) (Nat.le_of_ble_eq_true rfl) eM_25 dX8_copyFrom_73 ?_
  refine z_aload_n dX8_copyFrom_76 rfl rfl ?_
  refine z_aload_n dX8_copyFrom_77 rfl rfl ?_
  refine zgI fl_X8_47 h1 (fun _ => rfl) dX8_copyFrom_78 ?_
  obtain ⟨M_26, eM_26, hf⟩ := zl_some hf
  refine zpI fl_X8_47 h0 rfl (Or.inl rfl) eM_26 dX8_copyFrom_81 ?_
  refine z_aload_n dX8_copyFrom_84 rfl rfl ?_
  refine z_aload_n dX8_copyFrom_85 rfl rfl ?_
  refine zgI fl_X8_34 h1 (fun _ => rfl) dX8_copyFrom_86 ?_
  obtain ⟨M_27, eM_27, hf⟩ := zl_some hf
  refine zpI fl_X8_34 h0 rfl (Or.inl rfl) eM_27 dX8_copyFrom_89 ?_
  refine z_aload_n dX8_copyFrom_92 rfl rfl ?_
  refine z_aload_n dX8_copyFrom_93 rfl rfl ?_
  refine zgI fl_X8_50 h1 (fun _ => rfl) dX8_copyFrom_94 ?_
  obtain ⟨M_28, eM_28, hf⟩ := zl_some hf
  refine zpI fl_X8_50 h0 rfl (Or.inl rfl) eM_28 dX8_copyFrom_97 ?_
  refine z_aload_n dX8_copyFrom_100 rfl rfl ?_
  refine z_aload_n dX8_copyFrom_101 rfl rfl ?_
  refine zgI fl_X8_53 h1 (fun _ => rfl) dX8_copyFrom_102 ?_
  obtain ⟨M_29, eM_29, hf⟩ := zl_some hf
  refine zpI fl_X8_53 h0 rfl (Or.inl rfl) eM_29 dX8_copyFrom_105 ?_
  refine z_aload_n dX8_copyFrom_108 rfl rfl ?_
  refine z_aload_n dX8_copyFrom_109 rfl rfl ?_
  refine zgI fl_X8_38 h1 (fun _ => rfl) dX8_copyFrom_110 ?_
  obtain ⟨M_30, eM_30, hf⟩ := zl_some hf
  refine zpI fl_X8_38 h0 rfl (Or.inl rfl) eM_30 dX8_copyFrom_113 ?_
  obtain ⟨rfl, rfl⟩ := z_end hf
  exact z_vret ⟨rfl, rfl, rfl⟩ rfl dX8_copyFrom_116
noncomputable def f_X11_isRoom (x0 : Int32) (M : zM) : Option (Int32 × zM) :=
  (if x0 < 0 then some (0, M) else (if 24 ≤ x0 then some (0, M) else some (1, M)))
set_option maxHeartbeats 2000000 in
set_option maxRecDepth 20000 in
theorem t_X11_isRoom {l : Launch} {x0 : Int32} {M MO : zM} {v : Int32} (hf : f_X11_isRoom x0 M = some (v, MO)) : zMet l yX11_isRoom cX11_isRoom 1 (some .boolean) 1 0 0 [.int x0] SH M (zDi SH v MO) := by
  refine zMet.of (by decide +kernel) (Nat.le_of_ble_eq_true rfl) (Or.inr (Or.inr (Or.inl rfl))) ?_
  show zA l yX11_isRoom cX11_isRoom 1 (some .boolean) 1 0 0 SH.length (zDi SH v MO) 0 0 0 [(0, .int x0)] [] SH M
  unfold f_X11_isRoom at hf
  refine z_iload_n dX11_isRoom_0 rfl rfl ?_
  refine z_if_lt (tgt := 14) dX11_isRoom_1 (by decide) (fun q_1 => ?_) (fun q_1 => ?_)
  · have hf := (if_pos q_1).symm.trans hf
    refine z_iconst (v := 0) dX11_isRoom_14 (by decide) ?_
    obtain ⟨rfl, rfl⟩ := z_end hf
    exact z_iret ⟨rfl, rfl, rfl⟩ (Or.inr ⟨rfl, (Or.inl rfl)⟩) dX11_isRoom_15
  · have hf := (if_neg q_1).symm.trans hf
    refine z_iload_n dX11_isRoom_4 rfl rfl ?_
    refine z_bipush (v := 24) dX11_isRoom_5 (by decide) ?_
    refine z_icmp_ge (tgt := 14) dX11_isRoom_7 (by decide) (fun q_2 => ?_) (fun q_2 => ?_)
    · have hf := (if_pos q_2).symm.trans hf
      refine z_iconst (v := 0) dX11_isRoom_14 (by decide) ?_
      obtain ⟨rfl, rfl⟩ := z_end hf
      exact z_iret ⟨rfl, rfl, rfl⟩ (Or.inr ⟨rfl, (Or.inl rfl)⟩) dX11_isRoom_15
    · have hf := (if_neg q_2).symm.trans hf
      refine z_iconst (v := 1) dX11_isRoom_10 (by decide) ?_
      refine z_goto (tgt := 15) dX11_isRoom_11 (by decide) ?_
      obtain ⟨rfl, rfl⟩ := z_end hf
      exact z_iret ⟨rfl, rfl, rfl⟩ (Or.inr ⟨rfl, (Or.inr rfl)⟩) dX11_isRoom_15
noncomputable def f_X8_hasGuest (x0 : Nat) (x1 : Int32) (M : zM) : Option (Int32 × zM) :=
  z_call (f_X11_isRoom x1 M) fun v_1 M_2 => (if v_1 = 0 then some (0, M_2) else (if ((((M_2.1 x0 5) : Int32) >>> (x1 &&& 31)) &&& 1) = 1 then some (1, M_2) else some (0, M_2)))
set_option maxHeartbeats 2000000 in
set_option maxRecDepth 20000 in
theorem t_X8_hasGuest {l : Launch} {x0 : Nat} {x1 : Int32} {M MO : zM} {v : Int32} (h0 : z_tm SH 8 x0) (hf : f_X8_hasGuest x0 x1 M = some (v, MO)) : zMet l yX8_hasGuest cX8_hasGuest 2 (some .boolean) 2 0 0 [.ref x0, .int x1] SH M (zDi SH v MO) := by
  refine zMet.of (by decide +kernel) (Nat.le_of_ble_eq_true rfl) (Or.inr (Or.inr (Or.inl rfl))) ?_
  show zA l yX8_hasGuest cX8_hasGuest 2 (some .boolean) 2 0 0 SH.length (zDi SH v MO) 0 0 0 [(0, .ref x0), (1, .int x1)] [] SH M
  unfold f_X8_hasGuest at hf
  refine z_iload_n dX8_hasGuest_0 rfl rfl ?_
  obtain ⟨v_1, M_2, c_3, hf⟩ := z_call_some hf
  refine z_cSi (t_X11_isRoom  c_3) kw_X11_isRoom lk_X8_56 rfl (by decide) rfl (Nat.le_of_ble_eq_true rfl) ⟨Nat.le_refl 0, Nat.le_refl 0⟩ dX8_hasGuest_1 ?_
  refine z_if_eq (tgt := 23) dX8_hasGuest_4 (by decide) (fun q_4 => ?_) (fun q_4 => ?_)
  · have hf := (if_pos q_4).symm.trans hf
    refine z_iconst (v := 0) dX8_hasGuest_23 (by decide) ?_
    obtain ⟨rfl, rfl⟩ := z_end hf
    exact z_iret ⟨rfl, rfl, rfl⟩ (Or.inr ⟨rfl, (Or.inl rfl)⟩) dX8_hasGuest_24
  · have hf := (if_neg q_4).symm.trans hf
    refine z_aload_n dX8_hasGuest_7 rfl rfl ?_
    refine zgI fl_X8_47 h0 (fun _ => rfl) dX8_hasGuest_8 ?_
    refine z_iload_n dX8_hasGuest_11 rfl rfl ?_
    refine z_ishr dX8_hasGuest_12 ?_
    refine z_iconst (v := 1) dX8_hasGuest_13 (by decide) ?_
    refine z_iand dX8_hasGuest_14 ?_
    refine z_iconst (v := 1) dX8_hasGuest_15 (by decide) ?_
    refine z_icmp_ne (tgt := 23) dX8_hasGuest_16 (by decide) (fun q_5 => ?_) (fun q_5 => ?_)
    · have hf := (if_neg q_5).symm.trans hf
      refine z_iconst (v := 0) dX8_hasGuest_23 (by decide) ?_
      obtain ⟨rfl, rfl⟩ := z_end hf
      exact z_iret ⟨rfl, rfl, rfl⟩ (Or.inr ⟨rfl, (Or.inl rfl)⟩) dX8_hasGuest_24
    · have hf := (if_pos q_5).symm.trans hf
      refine z_iconst (v := 1) dX8_hasGuest_19 (by decide) ?_
      refine z_goto (tgt := 24) dX8_hasGuest_20 (by decide) ?_
      obtain ⟨rfl, rfl⟩ := z_end hf
      exact z_iret ⟨rfl, rfl, rfl⟩ (Or.inr ⟨rfl, (Or.inr rfl)⟩) dX8_hasGuest_24
noncomputable def f_X8_isOpen (x0 : Nat) (x1 : Int32) (M : zM) : Option (Int32 × zM) :=
  z_call (f_X11_isRoom x1 M) fun v_1 M_2 => (if v_1 = 0 then some (0, M_2) else (if ((((M_2.1 x0 6) : Int32) >>> (x1 &&& 31)) &&& 1) = 1 then some (1, M_2) else some (0, M_2)))
set_option maxHeartbeats 2000000 in
set_option maxRecDepth 20000 in
theorem t_X8_isOpen {l : Launch} {x0 : Nat} {x1 : Int32} {M MO : zM} {v : Int32} (h0 : z_tm SH 8 x0) (hf : f_X8_isOpen x0 x1 M = some (v, MO)) : zMet l yX8_isOpen cX8_isOpen 2 (some .boolean) 2 0 0 [.ref x0, .int x1] SH M (zDi SH v MO) := by
  refine zMet.of (by decide +kernel) (Nat.le_of_ble_eq_true rfl) (Or.inr (Or.inr (Or.inl rfl))) ?_
  show zA l yX8_isOpen cX8_isOpen 2 (some .boolean) 2 0 0 SH.length (zDi SH v MO) 0 0 0 [(0, .ref x0), (1, .int x1)] [] SH M
  unfold f_X8_isOpen at hf
  refine z_iload_n dX8_isOpen_0 rfl rfl ?_
  obtain ⟨v_1, M_2, c_3, hf⟩ := z_call_some hf
  refine z_cSi (t_X11_isRoom  c_3) kw_X11_isRoom lk_X8_56 rfl (by decide) rfl (Nat.le_of_ble_eq_true rfl) ⟨Nat.le_refl 0, Nat.le_refl 0⟩ dX8_isOpen_1 ?_
  refine z_if_eq (tgt := 23) dX8_isOpen_4 (by decide) (fun q_4 => ?_) (fun q_4 => ?_)
  · have hf := (if_pos q_4).symm.trans hf
    refine z_iconst (v := 0) dX8_isOpen_23 (by decide) ?_
    obtain ⟨rfl, rfl⟩ := z_end hf
    exact z_iret ⟨rfl, rfl, rfl⟩ (Or.inr ⟨rfl, (Or.inl rfl)⟩) dX8_isOpen_24
  · have hf := (if_neg q_4).symm.trans hf
    refine z_aload_n dX8_isOpen_7 rfl rfl ?_
    refine zgI fl_X8_34 h0 (fun _ => rfl) dX8_isOpen_8 ?_
    refine z_iload_n dX8_isOpen_11 rfl rfl ?_
    refine z_ishr dX8_isOpen_12 ?_
    refine z_iconst (v := 1) dX8_isOpen_13 (by decide) ?_
    refine z_iand dX8_isOpen_14 ?_
    refine z_iconst (v := 1) dX8_isOpen_15 (by decide) ?_
    refine z_icmp_ne (tgt := 23) dX8_isOpen_16 (by decide) (fun q_5 => ?_) (fun q_5 => ?_)
    · have hf := (if_neg q_5).symm.trans hf
      refine z_iconst (v := 0) dX8_isOpen_23 (by decide) ?_
      obtain ⟨rfl, rfl⟩ := z_end hf
      exact z_iret ⟨rfl, rfl, rfl⟩ (Or.inr ⟨rfl, (Or.inl rfl)⟩) dX8_isOpen_24
    · have hf := (if_pos q_5).symm.trans hf
      refine z_iconst (v := 1) dX8_isOpen_19 (by decide) ?_
      refine z_goto (tgt := 24) dX8_isOpen_20 (by decide) ?_
      obtain ⟨rfl, rfl⟩ := z_end hf
      exact z_iret ⟨rfl, rfl, rfl⟩ (Or.inr ⟨rfl, (Or.inr rfl)⟩) dX8_isOpen_24
noncomputable def f_X8_takesPart (x0 : Nat) (x1 : Int32) (M : zM) : Option (Int32 × zM) :=
  z_call (f_X11_isRoom x1 M) fun v_1 M_2 => (if v_1 = 0 then some (0, M_2) else (if (((M_2.1 x0 5) &&& (M_2.1 x0 6)) &&& ((1 : Int32) <<< (x1 &&& 31))) = 0 then some (0, M_2) else some (1, M_2)))
set_option maxHeartbeats 2000000 in
set_option maxRecDepth 20000 in
theorem t_X8_takesPart {l : Launch} {x0 : Nat} {x1 : Int32} {M MO : zM} {v : Int32} (h0 : z_tm SH 8 x0) (hf : f_X8_takesPart x0 x1 M = some (v, MO)) : zMet l yX8_takesPart cX8_takesPart 2 (some .boolean) 2 0 0 [.ref x0, .int x1] SH M (zDi SH v MO) := by
  refine zMet.of (by decide +kernel) (Nat.le_of_ble_eq_true rfl) (Or.inr (Or.inr (Or.inl rfl))) ?_
  show zA l yX8_takesPart cX8_takesPart 2 (some .boolean) 2 0 0 SH.length (zDi SH v MO) 0 0 0 [(0, .ref x0), (1, .int x1)] [] SH M
  unfold f_X8_takesPart at hf
  refine z_iload_n dX8_takesPart_0 rfl rfl ?_
  obtain ⟨v_1, M_2, c_3, hf⟩ := z_call_some hf
  refine z_cSi (t_X11_isRoom  c_3) kw_X11_isRoom lk_X8_56 rfl (by decide) rfl (Nat.le_of_ble_eq_true rfl) ⟨Nat.le_refl 0, Nat.le_refl 0⟩ dX8_takesPart_1 ?_
  refine z_if_eq (tgt := 27) dX8_takesPart_4 (by decide) (fun q_4 => ?_) (fun q_4 => ?_)
  · have hf := (if_pos q_4).symm.trans hf
    refine z_iconst (v := 0) dX8_takesPart_27 (by decide) ?_
    obtain ⟨rfl, rfl⟩ := z_end hf
    exact z_iret ⟨rfl, rfl, rfl⟩ (Or.inr ⟨rfl, (Or.inl rfl)⟩) dX8_takesPart_28
  · have hf := (if_neg q_4).symm.trans hf
    refine z_aload_n dX8_takesPart_7 rfl rfl ?_
    refine zgI fl_X8_47 h0 (fun _ => rfl) dX8_takesPart_8 ?_
    refine z_aload_n dX8_takesPart_11 rfl rfl ?_
    refine zgI fl_X8_34 h0 (fun _ => rfl) dX8_takesPart_12 ?_
    refine z_iand dX8_takesPart_15 ?_
    refine z_iconst (v := 1) dX8_takesPart_16 (by decide) ?_
    refine z_iload_n dX8_takesPart_17 rfl rfl ?_
    refine z_ishl dX8_takesPart_18 ?_
    refine z_iand dX8_takesPart_19 ?_
    refine z_if_eq (tgt := 27) dX8_takesPart_20 (by decide) (fun q_5 => ?_) (fun q_5 => ?_)
    · have hf := (if_pos q_5).symm.trans hf
      refine z_iconst (v := 0) dX8_takesPart_27 (by decide) ?_
      obtain ⟨rfl, rfl⟩ := z_end hf
      exact z_iret ⟨rfl, rfl, rfl⟩ (Or.inr ⟨rfl, (Or.inl rfl)⟩) dX8_takesPart_28
    · have hf := (if_neg q_5).symm.trans hf
      refine z_iconst (v := 1) dX8_takesPart_23 (by decide) ?_
      refine z_goto (tgt := 28) dX8_takesPart_24 (by decide) ?_
      obtain ⟨rfl, rfl⟩ := z_end hf
      exact z_iret ⟨rfl, rfl, rfl⟩ (Or.inr ⟨rfl, (Or.inr rfl)⟩) dX8_takesPart_28
noncomputable def f_X8_feelsOf (x0 : Nat) (x1 : Int32) (x2 : Int32) (M : zM) : Option (Int32 × zM) :=
  z_call (f_X11_isRoom x1 M) fun v_1 M_2 => (if v_1 = 0 then some (0, M_2) else z_call (f_X11_isRoom x2 M_2) fun v_5 M_6 => (if v_5 = 0 then some (0, M_6) else z_rd (M_6.2.1 x0 3) fun a_9 => if z_ix ((x1 * 24) + x2) (z_ln SH a_9) = true then some ((M_6.1 a_9 (((x1 * 24) + x2) : Int32).toNatClampNeg), M_6) else none))
set_option maxHeartbeats 2000000 in
set_option maxRecDepth 20000 in
theorem t_X8_feelsOf {l : Launch} {x0 : Nat} {x1 : Int32} {x2 : Int32} {M MO : zM} {v : Int32} (h0 : z_tm SH 8 x0) (hf : f_X8_feelsOf x0 x1 x2 M = some (v, MO)) : zMet l yX8_feelsOf cX8_feelsOf 3 (some .int) 2 0 0 [.ref x0, .int x1, .int x2] SH M (zDi SH v MO) := by
  refine zMet.of (by decide +kernel) (Nat.le_of_ble_eq_true rfl) (Or.inr (Or.inl rfl)) ?_
  show zA l yX8_feelsOf cX8_feelsOf 3 (some .int) 2 0 0 SH.length (zDi SH v MO) 0 0 0 [(0, .ref x0), (1, .int x1), (2, .int x2)] [] SH M
  unfold f_X8_feelsOf at hf
  refine z_iload_n dX8_feelsOf_0 rfl rfl ?_
  obtain ⟨v_1, M_2, c_3, hf⟩ := z_call_some hf
  refine z_cSi (t_X11_isRoom  c_3) kw_X11_isRoom lk_X8_56 rfl (by decide) rfl (Nat.le_of_ble_eq_true rfl) ⟨Nat.le_refl 0, Nat.le_refl 0⟩ dX8_feelsOf_1 ?_
  refine z_if_eq (tgt := 28) dX8_feelsOf_4 (by decide) (fun q_4 => ?_) (fun q_4 => ?_)
  · have hf := (if_pos q_4).symm.trans hf
    refine z_iconst (v := 0) dX8_feelsOf_28 (by decide) ?_
    obtain ⟨rfl, rfl⟩ := z_end hf
    exact z_iret ⟨rfl, rfl, rfl⟩ (Or.inl rfl) dX8_feelsOf_29
  · have hf := (if_neg q_4).symm.trans hf
    refine z_iload_n dX8_feelsOf_7 rfl rfl ?_
    obtain ⟨v_5, M_6, c_7, hf⟩ := z_call_some hf
    refine z_cSi (t_X11_isRoom  c_7) kw_X11_isRoom lk_X8_56 rfl (by decide) rfl (Nat.le_of_ble_eq_true rfl) ⟨Nat.le_refl 0, Nat.le_refl 0⟩ dX8_feelsOf_8 ?_
    refine z_if_eq (tgt := 28) dX8_feelsOf_11 (by decide) (fun q_8 => ?_) (fun q_8 => ?_)
    · have hf := (if_pos q_8).symm.trans hf
      refine z_iconst (v := 0) dX8_feelsOf_28 (by decide) ?_
      obtain ⟨rfl, rfl⟩ := z_end hf
      exact z_iret ⟨rfl, rfl, rfl⟩ (Or.inl rfl) dX8_feelsOf_29
    · have hf := (if_neg q_8).symm.trans hf
      refine z_aload_n dX8_feelsOf_14 rfl rfl ?_
      obtain ⟨a_9, ra_9, hf⟩ := z_rd_some hf
      refine zgR fl_X8_27 h0 (fun _ => rfl) ra_9 dX8_feelsOf_15 (fun ha_9 => ?_)
      refine z_iload_n dX8_feelsOf_18 rfl rfl ?_
      refine z_bipush (v := 24) dX8_feelsOf_19 (by decide) ?_
      refine z_imul dX8_feelsOf_21 ?_
      refine z_iload_n dX8_feelsOf_22 rfl rfl ?_
      refine z_iadd dX8_feelsOf_23 ?_
      obtain ⟨g_10, hf⟩ := z_ifs hf
      refine z_iald ha_9 g_10 rfl dX8_feelsOf_24 ?_
      refine z_goto (tgt := 29) dX8_feelsOf_25 (by decide) ?_
      obtain ⟨rfl, rfl⟩ := z_end hf
      exact z_iret ⟨rfl, rfl, rfl⟩ (Or.inl rfl) dX8_feelsOf_29
noncomputable def f_X8_mostFeltBy_27 (x0 : Nat) (x1 : Int32) (k4 : Int32 → Int32 → zM → Option (Int32 × zM)) (x2 : Int32) (x3 : Int32) (M : zM) : Option (Int32 × zM) :=
  zl (x3 + 1) fun x3_1 => (k4 x2 x3_1 M)
set_option maxHeartbeats 2000000 in
set_option maxRecDepth 20000 in
theorem t_X8_mostFeltBy_27 {l : Launch} {x0 : Nat} {x1 : Int32} {k4 : Int32 → Int32 → zM → Option (Int32 × zM)} {x2 : Int32} {x3 : Int32} {M MO : zM} {v : Int32} (h0 : z_tm SH 8 x0) (hk4 : ∀ (x2 : Int32) (x3 : Int32) (M : zM), k4 x2 x3 M = some (v, MO) → zA l yX8_mostFeltBy cX8_mostFeltBy 4 (some .int) 3 0 0 SH.length (zDi SH v MO) 0 0 4 [(0, .ref x0), (1, .int x1), (2, .int x2), (3, .int x3)] [] SH M) (hf : f_X8_mostFeltBy_27 x0 x1 k4 x2 x3 M = some (v, MO)) : zA l yX8_mostFeltBy cX8_mostFeltBy 4 (some .int) 3 0 0 SH.length (zDi SH v MO) 0 0 27 [(0, .ref x0), (1, .int x1), (2, .int x2), (3, .int x3)] [] SH M := by
  unfold f_X8_mostFeltBy_27 at hf
  obtain ⟨x3_1, ex3_1, hf⟩ := zl_some hf
  refine z_iinc' (lv' := [(3, .int x3_1), (0, .ref x0), (1, .int x1), (2, .int x2)]) dX8_mostFeltBy_27 rfl (by decide) ex3_1 (by decide) rfl ?_
  refine z_goto (tgt := 4) dX8_mostFeltBy_30 (by decide) ?_
  refine zA.pick [(0, .ref x0), (1, .int x1), (2, .int x2), (3, .int x3_1)] [1, 2, 3, 0] rfl ?_
  exact hk4 x2 x3_1 M hf
noncomputable def f_X8_mostFeltBy_4 (x0 : Nat) (x1 : Int32) : Nat → Int32 → Int32 → zM → Option (Int32 × zM)
  | 0, _, _, _ => none
  | n + 1, x2, x3, M =>
    (if 24 ≤ x3 then some (x2, M) else z_call (f_X8_feelsOf x0 x1 x3 M) fun v_2 M_3 => z_call (f_X8_feelsOf x0 x1 x2 M_3) fun v_5 M_6 => (if v_2 ≤ v_5 then (f_X8_mostFeltBy_27 x0 x1 (f_X8_mostFeltBy_4 x0 x1 n) x2 x3 M_6) else (f_X8_mostFeltBy_27 x0 x1 (f_X8_mostFeltBy_4 x0 x1 n) x3 x3 M_6)))
set_option maxHeartbeats 2000000 in
set_option maxRecDepth 20000 in
theorem t_X8_mostFeltBy_4 {l : Launch} {x0 : Nat} {x1 : Int32} {MO : zM} {v : Int32} (h0 : z_tm SH 8 x0) : ∀ (n : Nat) (x2 : Int32) (x3 : Int32) (M : zM), f_X8_mostFeltBy_4 x0 x1 n x2 x3 M = some (v, MO) → zA l yX8_mostFeltBy cX8_mostFeltBy 4 (some .int) 3 0 0 SH.length (zDi SH v MO) 0 0 4 [(0, .ref x0), (1, .int x1), (2, .int x2), (3, .int x3)] [] SH M := by
  intro n
  induction n with
  | zero =>
    intro x2 x3 M hf
    rw [f_X8_mostFeltBy_4] at hf
    cases hf
  | succ n ih =>
    intro x2 x3 M hf
    rw [f_X8_mostFeltBy_4] at hf
    refine z_iload_n dX8_mostFeltBy_4 rfl rfl ?_
    refine z_bipush (v := 24) dX8_mostFeltBy_5 (by decide) ?_
    refine z_icmp_ge (tgt := 33) dX8_mostFeltBy_7 (by decide) (fun q_1 => ?_) (fun q_1 => ?_)
    · have hf := (if_pos q_1).symm.trans hf
      refine z_iload_n dX8_mostFeltBy_33 rfl rfl ?_
      obtain ⟨rfl, rfl⟩ := z_end hf
      exact z_iret ⟨rfl, rfl, rfl⟩ (Or.inl rfl) dX8_mostFeltBy_34
    · have hf := (if_neg q_1).symm.trans hf
      refine z_aload_n dX8_mostFeltBy_10 rfl rfl ?_
      refine z_iload_n dX8_mostFeltBy_11 rfl rfl ?_
      refine z_iload_n dX8_mostFeltBy_12 rfl rfl ?_
      obtain ⟨v_2, M_3, c_4, hf⟩ := z_call_some hf
      refine z_cVi (t_X8_feelsOf h0 c_4) kw_X8_feelsOf lk_X8_60 h0 rfl (by decide) rfl (Nat.le_of_ble_eq_true rfl) ⟨Nat.le_refl 0, Nat.le_refl 0⟩ dX8_mostFeltBy_13 ?_
      refine z_aload_n dX8_mostFeltBy_16 rfl rfl ?_
      refine z_iload_n dX8_mostFeltBy_17 rfl rfl ?_
      refine z_iload_n dX8_mostFeltBy_18 rfl rfl ?_
      obtain ⟨v_5, M_6, c_7, hf⟩ := z_call_some hf
      refine z_cVi (t_X8_feelsOf h0 c_7) kw_X8_feelsOf lk_X8_60 h0 rfl (by decide) rfl (Nat.le_of_ble_eq_true rfl) ⟨Nat.le_refl 0, Nat.le_refl 0⟩ dX8_mostFeltBy_19 ?_
      refine z_icmp_le (tgt := 27) dX8_mostFeltBy_22 (by decide) (fun q_8 => ?_) (fun q_8 => ?_)
      · have hf := (if_pos q_8).symm.trans hf
        exact t_X8_mostFeltBy_27 h0 ih hf
      · have hf := (if_neg q_8).symm.trans hf
        refine z_iload_n dX8_mostFeltBy_25 rfl rfl ?_
        refine z_istore_n' (lv' := [(2, .int x3), (0, .ref x0), (1, .int x1), (3, .int x3)]) rfl dX8_mostFeltBy_26 (by decide) rfl rfl ?_
        refine zA.pick [(0, .ref x0), (1, .int x1), (2, .int x3), (3, .int x3)] [1, 2, 0, 3] rfl ?_
        exact t_X8_mostFeltBy_27 h0 ih hf
noncomputable def f_X8_mostFeltBy (x0 : Nat) (x1 : Int32) (M : zM) : Option (Int32 × zM) :=
  (f_X8_mostFeltBy_4 x0 x1 zF 0 1 M)
set_option maxHeartbeats 2000000 in
set_option maxRecDepth 20000 in
theorem t_X8_mostFeltBy {l : Launch} {x0 : Nat} {x1 : Int32} {M MO : zM} {v : Int32} (h0 : z_tm SH 8 x0) (hf : f_X8_mostFeltBy x0 x1 M = some (v, MO)) : zMet l yX8_mostFeltBy cX8_mostFeltBy 4 (some .int) 3 0 0 [.ref x0, .int x1] SH M (zDi SH v MO) := by
  refine zMet.of (by decide +kernel) (Nat.le_of_ble_eq_true rfl) (Or.inr (Or.inl rfl)) ?_
  show zA l yX8_mostFeltBy cX8_mostFeltBy 4 (some .int) 3 0 0 SH.length (zDi SH v MO) 0 0 0 [(0, .ref x0), (1, .int x1)] [] SH M
  unfold f_X8_mostFeltBy at hf
  refine z_iconst (v := 0) dX8_mostFeltBy_0 (by decide) ?_
  refine z_istore_n' (lv' := [(2, .int 0), (0, .ref x0), (1, .int x1)]) rfl dX8_mostFeltBy_1 (by decide) rfl rfl ?_
  refine z_iconst (v := 1) dX8_mostFeltBy_2 (by decide) ?_
  refine z_istore_n' (lv' := [(3, .int 1), (2, .int 0), (0, .ref x0), (1, .int x1)]) rfl dX8_mostFeltBy_3 (by decide) rfl rfl ?_
  refine zA.pick [(0, .ref x0), (1, .int x1), (2, .int 0), (3, .int 1)] [2, 3, 1, 0] rfl ?_
  exact t_X8_mostFeltBy_4 h0 zF 0 1 M hf
noncomputable def f_X8_forget_2 (x0 : Nat) (x1 : Int32) : Nat → Int32 → zM → Option (Unit × zM)
  | 0, _, _ => none
  | n + 1, x2, M =>
    (if 24 ≤ x2 then z_rd (M.2.1 x0 4) fun a_2 => if z_ix x1 (z_ln SH a_2) = true then zl (zu M.1 a_2 (x1 : Int32).toNatClampNeg 0, M.2) fun M_4 => some ((), M_4) else none else z_rd (M.2.1 x0 3) fun a_5 => if z_ix ((x1 * 24) + x2) (z_ln SH a_5) = true then zl (zu M.1 a_5 (((x1 * 24) + x2) : Int32).toNatClampNeg 0, M.2) fun M_7 => zl (x2 + 1) fun x2_8 => (f_X8_forget_2 x0 x1 n x2_8 M_7) else none)
set_option maxHeartbeats 2000000 in
set_option maxRecDepth 20000 in
theorem t_X8_forget_2 {l : Launch} {x0 : Nat} {x1 : Int32} {MO : zM} {v : Unit} (h0 : z_tm SH 8 x0) : ∀ (n : Nat) (x2 : Int32) (M : zM), f_X8_forget_2 x0 x1 n x2 M = some (v, MO) → zA l yX8_forget cX8_forget 3 none 1 0 0 SH.length (zDv SH MO) 0 0 2 [(0, .ref x0), (1, .int x1), (2, .int x2)] [] SH M := by
  intro n
  induction n with
  | zero =>
    intro x2 M hf
    rw [f_X8_forget_2] at hf
    cases hf
  | succ n ih =>
    intro x2 M hf
    rw [f_X8_forget_2] at hf
    refine z_iload_n dX8_forget_2 rfl rfl ?_
    refine z_bipush (v := 24) dX8_forget_3 (by decide) ?_
    refine z_icmp_ge (tgt := 26) dX8_forget_5 (by decide) (fun q_1 => ?_) (fun q_1 => ?_)
    · have hf := (if_pos q_1).symm.trans hf
      refine z_aload_n dX8_forget_26 rfl rfl ?_
      obtain ⟨a_2, ra_2, hf⟩ := z_rd_some hf
      refine zgR fl_X8_30 h0 (fun _ => rfl) ra_2 dX8_forget_27 (fun ha_2 => ?_)
      refine z_iload_n dX8_forget_30 rfl rfl ?_
      refine z_iconst (v := 0) dX8_forget_31 (by decide) ?_
      obtain ⟨g_3, hf⟩ := z_ifs hf
      obtain ⟨M_4, eM_4, hf⟩ := zl_some hf
      refine z_iast ha_2 g_3 eM_4 dX8_forget_32 ?_
      obtain ⟨rfl, rfl⟩ := z_end hf
      exact z_vret ⟨rfl, rfl, rfl⟩ rfl dX8_forget_33
    · have hf := (if_neg q_1).symm.trans hf
      refine z_aload_n dX8_forget_8 rfl rfl ?_
      obtain ⟨a_5, ra_5, hf⟩ := z_rd_some hf
      refine zgR fl_X8_27 h0 (fun _ => rfl) ra_5 dX8_forget_9 (fun ha_5 => ?_)
      refine z_iload_n dX8_forget_12 rfl rfl ?_
      refine z_bipush (v := 24) dX8_forget_13 (by decide) ?_
      refine z_imul dX8_forget_15 ?_
      refine z_iload_n dX8_forget_16 rfl rfl ?_
      refine z_iadd dX8_forget_17 ?_
      refine z_iconst (v := 0) dX8_forget_18 (by decide) ?_
      obtain ⟨g_6, hf⟩ := z_ifs hf
      obtain ⟨M_7, eM_7, hf⟩ := zl_some hf
      refine z_iast ha_5 g_6 eM_7 dX8_forget_19 ?_
      obtain ⟨x2_8, ex2_8, hf⟩ := zl_some hf
      refine z_iinc' (lv' := [(2, .int x2_8), (0, .ref x0), (1, .int x1)]) dX8_forget_20 rfl (by decide) ex2_8 (by decide) rfl ?_
      refine z_goto (tgt := 2) dX8_forget_23 (by decide) ?_
      refine zA.pick [(0, .ref x0), (1, .int x1), (2, .int x2_8)] [1, 2, 0] rfl ?_
      exact ih x2_8 M_7 hf
noncomputable def f_X8_forget (x0 : Nat) (x1 : Int32) (M : zM) : Option (Unit × zM) :=
  (f_X8_forget_2 x0 x1 zF 0 M)
set_option maxHeartbeats 2000000 in
set_option maxRecDepth 20000 in
theorem t_X8_forget {l : Launch} {x0 : Nat} {x1 : Int32} {M MO : zM} {v : Unit} (h0 : z_tm SH 8 x0) (hf : f_X8_forget x0 x1 M = some (v, MO)) : zMet l yX8_forget cX8_forget 3 none 1 0 0 [.ref x0, .int x1] SH M (zDv SH MO) := by
  refine zMet.of (by decide +kernel) (Nat.le_of_ble_eq_true rfl) (Or.inl rfl) ?_
  show zA l yX8_forget cX8_forget 3 none 1 0 0 SH.length (zDv SH MO) 0 0 0 [(0, .ref x0), (1, .int x1)] [] SH M
  unfold f_X8_forget at hf
  refine z_iconst (v := 0) dX8_forget_0 (by decide) ?_
  refine z_istore_n' (lv' := [(2, .int 0), (0, .ref x0), (1, .int x1)]) rfl dX8_forget_1 (by decide) rfl rfl ?_
  refine zA.pick [(0, .ref x0), (1, .int x1), (2, .int 0)] [1, 2, 0] rfl ?_
  exact t_X8_forget_2 h0 zF 0 M hf
noncomputable def f_X8_takeIn (x0 : Nat) (x1 : Int32) (x2 : Int32) (M : zM) : Option (Unit × zM) :=
  z_call (f_X11_isRoom x1 M) fun v_1 M_2 => (if v_1 = 0 then some ((), M_2) else zl (zu M_2.1 x0 5 ((M_2.1 x0 5) ||| ((1 : Int32) <<< (x1 &&& 31))), M_2.2) fun M_5 => z_rd (M_5.2.1 x0 0) fun a_6 => if z_ix x1 (z_ln SH a_6) = true then zl (zu M_5.1 a_6 (x1 : Int32).toNatClampNeg x2, M_5.2) fun M_8 => z_call (f_X8_forget x0 x1 M_8) fun v_9 M_10 => some ((), M_10) else none)
set_option maxHeartbeats 2000000 in
set_option maxRecDepth 20000 in
theorem t_X8_takeIn {l : Launch} {x0 : Nat} {x1 : Int32} {x2 : Int32} {M MO : zM} {v : Unit} (h0 : z_tm SH 8 x0) (hf : f_X8_takeIn x0 x1 x2 M = some (v, MO)) : zMet l yX8_takeIn cX8_takeIn 3 none 2 0 0 [.ref x0, .int x1, .int x2] SH M (zDv SH MO) := by
  refine zMet.of (by decide +kernel) (Nat.le_of_ble_eq_true rfl) (Or.inl rfl) ?_
  show zA l yX8_takeIn cX8_takeIn 3 none 2 0 0 SH.length (zDv SH MO) 0 0 0 [(0, .ref x0), (1, .int x1), (2, .int x2)] [] SH M
  unfold f_X8_takeIn at hf
  refine z_iload_n dX8_takeIn_0 rfl rfl ?_
  obtain ⟨v_1, M_2, c_3, hf⟩ := z_call_some hf
  refine z_cSi (t_X11_isRoom  c_3) kw_X11_isRoom lk_X8_56 rfl (by decide) rfl (Nat.le_of_ble_eq_true rfl) ⟨Nat.le_refl 0, Nat.le_refl 0⟩ dX8_takeIn_1 ?_
  refine z_if_eq (tgt := 31) dX8_takeIn_4 (by decide) (fun q_4 => ?_) (fun q_4 => ?_)
  · have hf := (if_pos q_4).symm.trans hf
    obtain ⟨rfl, rfl⟩ := z_end hf
    exact z_vret ⟨rfl, rfl, rfl⟩ rfl dX8_takeIn_31
  · have hf := (if_neg q_4).symm.trans hf
    refine z_aload_n dX8_takeIn_7 rfl rfl ?_
    refine z_dup dX8_takeIn_8 rfl ?_
    refine zgI fl_X8_47 h0 (fun _ => rfl) dX8_takeIn_9 ?_
    refine z_iconst (v := 1) dX8_takeIn_12 (by decide) ?_
    refine z_iload_n dX8_takeIn_13 rfl rfl ?_
    refine z_ishl dX8_takeIn_14 ?_
    refine z_ior dX8_takeIn_15 ?_
    obtain ⟨M_5, eM_5, hf⟩ := zl_some hf
    refine zpI fl_X8_47 h0 rfl (Or.inl rfl) eM_5 dX8_takeIn_16 ?_
    refine z_aload_n dX8_takeIn_19 rfl rfl ?_
    obtain ⟨a_6, ra_6, hf⟩ := z_rd_some hf
    refine zgR fl_X8_9 h0 (fun _ => rfl) ra_6 dX8_takeIn_20 (fun ha_6 => ?_)
    refine z_iload_n dX8_takeIn_23 rfl rfl ?_
    refine z_iload_n dX8_takeIn_24 rfl rfl ?_
    obtain ⟨g_7, hf⟩ := z_ifs hf
    obtain ⟨M_8, eM_8, hf⟩ := zl_some hf
    refine z_iast ha_6 g_7 eM_8 dX8_takeIn_25 ?_
    refine z_aload_n dX8_takeIn_26 rfl rfl ?_
    refine z_iload_n dX8_takeIn_27 rfl rfl ?_
    obtain ⟨v_9, M_10, c_11, hf⟩ := z_call_some hf
    refine z_cVv (t_X8_forget h0 c_11) kw_X8_forget lk_X8_64 h0 rfl (by decide) rfl (Nat.le_of_ble_eq_true rfl) ⟨Nat.le_refl 0, Nat.le_refl 0⟩ dX8_takeIn_28 ?_
    obtain ⟨rfl, rfl⟩ := z_end hf
    exact z_vret ⟨rfl, rfl, rfl⟩ rfl dX8_takeIn_31
noncomputable def f_X8_sendAway (x0 : Nat) (x1 : Int32) (M : zM) : Option (Unit × zM) :=
  z_call (f_X11_isRoom x1 M) fun v_1 M_2 => (if v_1 = 0 then some ((), M_2) else zl (zu M_2.1 x0 5 ((M_2.1 x0 5) &&& (((1 : Int32) <<< (x1 &&& 31)) ^^^ (-1))), M_2.2) fun M_5 => z_rd (M_5.2.1 x0 0) fun a_6 => if z_ix x1 (z_ln SH a_6) = true then zl (zu M_5.1 a_6 (x1 : Int32).toNatClampNeg 0, M_5.2) fun M_8 => z_call (f_X8_forget x0 x1 M_8) fun v_9 M_10 => some ((), M_10) else none)
set_option maxHeartbeats 2000000 in
set_option maxRecDepth 20000 in
theorem t_X8_sendAway {l : Launch} {x0 : Nat} {x1 : Int32} {M MO : zM} {v : Unit} (h0 : z_tm SH 8 x0) (hf : f_X8_sendAway x0 x1 M = some (v, MO)) : zMet l yX8_sendAway cX8_sendAway 2 none 2 0 0 [.ref x0, .int x1] SH M (zDv SH MO) := by
  refine zMet.of (by decide +kernel) (Nat.le_of_ble_eq_true rfl) (Or.inl rfl) ?_
  show zA l yX8_sendAway cX8_sendAway 2 none 2 0 0 SH.length (zDv SH MO) 0 0 0 [(0, .ref x0), (1, .int x1)] [] SH M
  unfold f_X8_sendAway at hf
  refine z_iload_n dX8_sendAway_0 rfl rfl ?_
  obtain ⟨v_1, M_2, c_3, hf⟩ := z_call_some hf
  refine z_cSi (t_X11_isRoom  c_3) kw_X11_isRoom lk_X8_56 rfl (by decide) rfl (Nat.le_of_ble_eq_true rfl) ⟨Nat.le_refl 0, Nat.le_refl 0⟩ dX8_sendAway_1 ?_
  refine z_if_eq (tgt := 33) dX8_sendAway_4 (by decide) (fun q_4 => ?_) (fun q_4 => ?_)
  · have hf := (if_pos q_4).symm.trans hf
    obtain ⟨rfl, rfl⟩ := z_end hf
    exact z_vret ⟨rfl, rfl, rfl⟩ rfl dX8_sendAway_33
  · have hf := (if_neg q_4).symm.trans hf
    refine z_aload_n dX8_sendAway_7 rfl rfl ?_
    refine z_dup dX8_sendAway_8 rfl ?_
    refine zgI fl_X8_47 h0 (fun _ => rfl) dX8_sendAway_9 ?_
    refine z_iconst (v := 1) dX8_sendAway_12 (by decide) ?_
    refine z_iload_n dX8_sendAway_13 rfl rfl ?_
    refine z_ishl dX8_sendAway_14 ?_
    refine z_iconst (v := (-1)) dX8_sendAway_15 (by decide) ?_
    refine z_ixor dX8_sendAway_16 ?_
    refine z_iand dX8_sendAway_17 ?_
    obtain ⟨M_5, eM_5, hf⟩ := zl_some hf
    refine zpI fl_X8_47 h0 rfl (Or.inl rfl) eM_5 dX8_sendAway_18 ?_
    refine z_aload_n dX8_sendAway_21 rfl rfl ?_
    obtain ⟨a_6, ra_6, hf⟩ := z_rd_some hf
    refine zgR fl_X8_9 h0 (fun _ => rfl) ra_6 dX8_sendAway_22 (fun ha_6 => ?_)
    refine z_iload_n dX8_sendAway_25 rfl rfl ?_
    refine z_iconst (v := 0) dX8_sendAway_26 (by decide) ?_
    obtain ⟨g_7, hf⟩ := z_ifs hf
    obtain ⟨M_8, eM_8, hf⟩ := zl_some hf
    refine z_iast ha_6 g_7 eM_8 dX8_sendAway_27 ?_
    refine z_aload_n dX8_sendAway_28 rfl rfl ?_
    refine z_iload_n dX8_sendAway_29 rfl rfl ?_
    obtain ⟨v_9, M_10, c_11, hf⟩ := z_call_some hf
    refine z_cVv (t_X8_forget h0 c_11) kw_X8_forget lk_X8_64 h0 rfl (by decide) rfl (Nat.le_of_ble_eq_true rfl) ⟨Nat.le_refl 0, Nat.le_refl 0⟩ dX8_sendAway_30 ?_
    obtain ⟨rfl, rfl⟩ := z_end hf
    exact z_vret ⟨rfl, rfl, rfl⟩ rfl dX8_sendAway_33
noncomputable def f_X8_setGrille_33 (s0 : Nat) (s1 : Int32) (M : zM) : Option (Unit × zM) :=
  zl (zu M.1 s0 6 s1, M.2) fun M_1 => some ((), M_1)
set_option maxHeartbeats 2000000 in
set_option maxRecDepth 20000 in
theorem t_X8_setGrille_33 {l : Launch} {s0 : Nat} {s1 : Int32} {M MO : zM} {v : Unit} (hs0 : z_tm SH 8 s0) (hf : f_X8_setGrille_33  s0 s1 M = some (v, MO)) : zA l yX8_setGrille cX8_setGrille 3 none 2 0 0 SH.length (zDv SH MO) 0 0 33 [] [.int s1, .ref s0] SH M := by
  unfold f_X8_setGrille_33 at hf
  obtain ⟨M_1, eM_1, hf⟩ := zl_some hf
  refine zpI fl_X8_34 hs0 rfl (Or.inl rfl) eM_1 dX8_setGrille_33 ?_
  obtain ⟨rfl, rfl⟩ := z_end hf
  exact z_vret ⟨rfl, rfl, rfl⟩ rfl dX8_setGrille_36
noncomputable def f_X8_setGrille (x0 : Nat) (x1 : Int32) (x2 : Int32) (M : zM) : Option (Unit × zM) :=
  z_call (f_X11_isRoom x1 M) fun v_1 M_2 => (if v_1 = 0 then some ((), M_2) else (if x2 = 0 then (f_X8_setGrille_33 x0 ((M_2.1 x0 6) &&& (((1 : Int32) <<< (x1 &&& 31)) ^^^ (-1))) M_2) else (f_X8_setGrille_33 x0 ((M_2.1 x0 6) ||| ((1 : Int32) <<< (x1 &&& 31))) M_2)))
set_option maxHeartbeats 2000000 in
set_option maxRecDepth 20000 in
theorem t_X8_setGrille {l : Launch} {x0 : Nat} {x1 : Int32} {x2 : Int32} {M MO : zM} {v : Unit} (h0 : z_tm SH 8 x0) (hf : f_X8_setGrille x0 x1 x2 M = some (v, MO)) : zMet l yX8_setGrille cX8_setGrille 3 none 2 0 0 [.ref x0, .int x1, .int x2] SH M (zDv SH MO) := by
  refine zMet.of (by decide +kernel) (Nat.le_of_ble_eq_true rfl) (Or.inl rfl) ?_
  show zA l yX8_setGrille cX8_setGrille 3 none 2 0 0 SH.length (zDv SH MO) 0 0 0 [(0, .ref x0), (1, .int x1), (2, .int x2)] [] SH M
  unfold f_X8_setGrille at hf
  refine z_iload_n dX8_setGrille_0 rfl rfl ?_
  obtain ⟨v_1, M_2, c_3, hf⟩ := z_call_some hf
  refine z_cSi (t_X11_isRoom  c_3) kw_X11_isRoom lk_X8_56 rfl (by decide) rfl (Nat.le_of_ble_eq_true rfl) ⟨Nat.le_refl 0, Nat.le_refl 0⟩ dX8_setGrille_1 ?_
  refine z_if_eq (tgt := 36) dX8_setGrille_4 (by decide) (fun q_4 => ?_) (fun q_4 => ?_)
  · have hf := (if_pos q_4).symm.trans hf
    obtain ⟨rfl, rfl⟩ := z_end hf
    exact z_vret ⟨rfl, rfl, rfl⟩ rfl dX8_setGrille_36
  · have hf := (if_neg q_4).symm.trans hf
    refine z_aload_n dX8_setGrille_7 rfl rfl ?_
    refine z_iload_n dX8_setGrille_8 rfl rfl ?_
    refine z_if_eq (tgt := 23) dX8_setGrille_9 (by decide) (fun q_5 => ?_) (fun q_5 => ?_)
    · have hf := (if_pos q_5).symm.trans hf
      refine z_aload_n dX8_setGrille_23 rfl rfl ?_
      refine zgI fl_X8_34 h0 (fun _ => rfl) dX8_setGrille_24 ?_
      refine z_iconst (v := 1) dX8_setGrille_27 (by decide) ?_
      refine z_iload_n dX8_setGrille_28 rfl rfl ?_
      refine z_ishl dX8_setGrille_29 ?_
      refine z_iconst (v := (-1)) dX8_setGrille_30 (by decide) ?_
      refine z_ixor dX8_setGrille_31 ?_
      refine z_iand dX8_setGrille_32 ?_
      refine zA.pick [] [] rfl ?_
      exact t_X8_setGrille_33 h0 hf
    · have hf := (if_neg q_5).symm.trans hf
      refine z_aload_n dX8_setGrille_12 rfl rfl ?_
      refine zgI fl_X8_34 h0 (fun _ => rfl) dX8_setGrille_13 ?_
      refine z_iconst (v := 1) dX8_setGrille_16 (by decide) ?_
      refine z_iload_n dX8_setGrille_17 rfl rfl ?_
      refine z_ishl dX8_setGrille_18 ?_
      refine z_ior dX8_setGrille_19 ?_
      refine z_goto (tgt := 33) dX8_setGrille_20 (by decide) ?_
      refine zA.pick [] [] rfl ?_
      exact t_X8_setGrille_33 h0 hf
noncomputable def f_X8_setLouvre (x0 : Nat) (x1 : Int32) (x2 : Int32) (M : zM) : Option (Unit × zM) :=
  z_call (f_X11_isRoom x1 M) fun v_1 M_2 => (if v_1 = 0 then some ((), M_2) else z_rd (M_2.2.1 x0 1) fun a_5 => if z_ix x1 (z_ln SH a_5) = true then zl (zu M_2.1 a_5 (x1 : Int32).toNatClampNeg x2, M_2.2) fun M_7 => some ((), M_7) else none)
set_option maxHeartbeats 2000000 in
set_option maxRecDepth 20000 in
theorem t_X8_setLouvre {l : Launch} {x0 : Nat} {x1 : Int32} {x2 : Int32} {M MO : zM} {v : Unit} (h0 : z_tm SH 8 x0) (hf : f_X8_setLouvre x0 x1 x2 M = some (v, MO)) : zMet l yX8_setLouvre cX8_setLouvre 3 none 2 0 0 [.ref x0, .int x1, .int x2] SH M (zDv SH MO) := by
  refine zMet.of (by decide +kernel) (Nat.le_of_ble_eq_true rfl) (Or.inl rfl) ?_
  show zA l yX8_setLouvre cX8_setLouvre 3 none 2 0 0 SH.length (zDv SH MO) 0 0 0 [(0, .ref x0), (1, .int x1), (2, .int x2)] [] SH M
  unfold f_X8_setLouvre at hf
  refine z_iload_n dX8_setLouvre_0 rfl rfl ?_
  obtain ⟨v_1, M_2, c_3, hf⟩ := z_call_some hf
  refine z_cSi (t_X11_isRoom  c_3) kw_X11_isRoom lk_X8_56 rfl (by decide) rfl (Nat.le_of_ble_eq_true rfl) ⟨Nat.le_refl 0, Nat.le_refl 0⟩ dX8_setLouvre_1 ?_
  refine z_if_eq (tgt := 14) dX8_setLouvre_4 (by decide) (fun q_4 => ?_) (fun q_4 => ?_)
  · have hf := (if_pos q_4).symm.trans hf
    obtain ⟨rfl, rfl⟩ := z_end hf
    exact z_vret ⟨rfl, rfl, rfl⟩ rfl dX8_setLouvre_14
  · have hf := (if_neg q_4).symm.trans hf
    refine z_aload_n dX8_setLouvre_7 rfl rfl ?_
    obtain ⟨a_5, ra_5, hf⟩ := z_rd_some hf
    refine zgR fl_X8_15 h0 (fun _ => rfl) ra_5 dX8_setLouvre_8 (fun ha_5 => ?_)
    refine z_iload_n dX8_setLouvre_11 rfl rfl ?_
    refine z_iload_n dX8_setLouvre_12 rfl rfl ?_
    obtain ⟨g_6, hf⟩ := z_ifs hf
    obtain ⟨M_7, eM_7, hf⟩ := zl_some hf
    refine z_iast ha_5 g_6 eM_7 dX8_setLouvre_13 ?_
    obtain ⟨rfl, rfl⟩ := z_end hf
    exact z_vret ⟨rfl, rfl, rfl⟩ rfl dX8_setLouvre_14
noncomputable def f_X8_swap (x0 : Nat) (x1 : Int32) (x2 : Int32) (M : zM) : Option (Unit × zM) :=
  if z_ix x1 (z_ln SH x0) = true then zl ((M.1 x0 (x1 : Int32).toNatClampNeg)) fun x3_2 => if z_ix x2 (z_ln SH x0) = true then if z_ix x1 (z_ln SH x0) = true then zl (zu M.1 x0 (x1 : Int32).toNatClampNeg (M.1 x0 (x2 : Int32).toNatClampNeg), M.2) fun M_5 => if z_ix x2 (z_ln SH x0) = true then zl (zu M_5.1 x0 (x2 : Int32).toNatClampNeg x3_2, M_5.2) fun M_7 => some ((), M_7) else none else none else none else none
set_option maxHeartbeats 2000000 in
set_option maxRecDepth 20000 in
theorem t_X8_swap {l : Launch} {x0 : Nat} {x1 : Int32} {x2 : Int32} {M MO : zM} {v : Unit} (h0 : z_tm SH 100 x0) (hf : f_X8_swap x0 x1 x2 M = some (v, MO)) : zMet l yX8_swap cX8_swap 4 none 1 0 0 [.ref x0, .int x1, .int x2] SH M (zDv SH MO) := by
  refine zMet.of (by decide +kernel) (Nat.le_of_ble_eq_true rfl) (Or.inl rfl) ?_
  show zA l yX8_swap cX8_swap 4 none 1 0 0 SH.length (zDv SH MO) 0 0 0 [(0, .ref x0), (1, .int x1), (2, .int x2)] [] SH M
  unfold f_X8_swap at hf
  refine z_aload_n dX8_swap_0 rfl rfl ?_
  refine z_iload_n dX8_swap_1 rfl rfl ?_
  obtain ⟨g_1, hf⟩ := z_ifs hf
  refine z_iald h0 g_1 rfl dX8_swap_2 ?_
  obtain ⟨x3_2, ex3_2, hf⟩ := zl_some hf
  refine z_istore_n' (lv' := [(3, .int x3_2), (0, .ref x0), (1, .int x1), (2, .int x2)]) rfl dX8_swap_3 (by decide) ex3_2 rfl ?_
  refine z_aload_n dX8_swap_4 rfl rfl ?_
  refine z_iload_n dX8_swap_5 rfl rfl ?_
  refine z_aload_n dX8_swap_6 rfl rfl ?_
  refine z_iload_n dX8_swap_7 rfl rfl ?_
  obtain ⟨g_3, hf⟩ := z_ifs hf
  refine z_iald h0 g_3 rfl dX8_swap_8 ?_
  obtain ⟨g_4, hf⟩ := z_ifs hf
  obtain ⟨M_5, eM_5, hf⟩ := zl_some hf
  refine z_iast h0 g_4 eM_5 dX8_swap_9 ?_
  refine z_aload_n dX8_swap_10 rfl rfl ?_
  refine z_iload_n dX8_swap_11 rfl rfl ?_
  refine z_iload_n dX8_swap_12 rfl rfl ?_
  obtain ⟨g_6, hf⟩ := z_ifs hf
  obtain ⟨M_7, eM_7, hf⟩ := zl_some hf
  refine z_iast h0 g_6 eM_7 dX8_swap_13 ?_
  obtain ⟨rfl, rfl⟩ := z_end hf
  exact z_vret ⟨rfl, rfl, rfl⟩ rfl dX8_swap_14
noncomputable def f_X8_exchange_64 (x0 : Nat) (x1 : Int32) (x2 : Int32) : Nat → Int32 → zM → Option (Unit × zM)
  | 0, _, _ => none
  | n + 1, x3, M =>
    (if 24 ≤ x3 then some ((), M) else z_rd (M.2.1 x0 3) fun a_2 => z_call (f_X8_swap a_2 ((x1 * 24) + x3) ((x2 * 24) + x3) M) fun v_3 M_4 => zl (x3 + 1) fun x3_6 => (f_X8_exchange_64 x0 x1 x2 n x3_6 M_4))
set_option maxHeartbeats 2000000 in
set_option maxRecDepth 20000 in
theorem t_X8_exchange_64 {l : Launch} {x0 : Nat} {x1 : Int32} {x2 : Int32} {MO : zM} {v : Unit} (h0 : z_tm SH 8 x0) : ∀ (n : Nat) (x3 : Int32) (M : zM), f_X8_exchange_64 x0 x1 x2 n x3 M = some (v, MO) → zA l yX8_exchange cX8_exchange 4 none 3 0 0 SH.length (zDv SH MO) 0 0 64 [(0, .ref x0), (1, .int x1), (2, .int x2), (3, .int x3)] [] SH M := by
  intro n
  induction n with
  | zero =>
    intro x3 M hf
    rw [f_X8_exchange_64] at hf
    cases hf
  | succ n ih =>
    intro x3 M hf
    rw [f_X8_exchange_64] at hf
    refine z_iload_n dX8_exchange_64 rfl rfl ?_
    refine z_bipush (v := 24) dX8_exchange_65 (by decide) ?_
    refine z_icmp_ge (tgt := 95) dX8_exchange_67 (by decide) (fun q_1 => ?_) (fun q_1 => ?_)
    · have hf := (if_pos q_1).symm.trans hf
      obtain ⟨rfl, rfl⟩ := z_end hf
      exact z_vret ⟨rfl, rfl, rfl⟩ rfl dX8_exchange_95
    · have hf := (if_neg q_1).symm.trans hf
      refine z_aload_n dX8_exchange_70 rfl rfl ?_
      obtain ⟨a_2, ra_2, hf⟩ := z_rd_some hf
      refine zgR fl_X8_27 h0 (fun _ => rfl) ra_2 dX8_exchange_71 (fun ha_2 => ?_)
      refine z_iload_n dX8_exchange_74 rfl rfl ?_
      refine z_bipush (v := 24) dX8_exchange_75 (by decide) ?_
      refine z_imul dX8_exchange_77 ?_
      refine z_iload_n dX8_exchange_78 rfl rfl ?_
      refine z_iadd dX8_exchange_79 ?_
      refine z_iload_n dX8_exchange_80 rfl rfl ?_
      refine z_bipush (v := 24) dX8_exchange_81 (by decide) ?_
      refine z_imul dX8_exchange_83 ?_
      refine z_iload_n dX8_exchange_84 rfl rfl ?_
      refine z_iadd dX8_exchange_85 ?_
      obtain ⟨v_3, M_4, c_5, hf⟩ := z_call_some hf
      refine z_cSv (t_X8_swap ha_2 c_5) kw_X8_swap lk_X8_71 rfl (by decide) rfl (Nat.le_of_ble_eq_true rfl) ⟨Nat.le_refl 0, Nat.le_refl 0⟩ dX8_exchange_86 ?_
      obtain ⟨x3_6, ex3_6, hf⟩ := zl_some hf
      refine z_iinc' (lv' := [(3, .int x3_6), (0, .ref x0), (1, .int x1), (2, .int x2)]) dX8_exchange_89 rfl (by decide) ex3_6 (by decide) rfl ?_
      refine z_goto (tgt := 64) dX8_exchange_92 (by decide) ?_
      refine zA.pick [(0, .ref x0), (1, .int x1), (2, .int x2), (3, .int x3_6)] [1, 2, 3, 0] rfl ?_
      exact ih x3_6 M_4 hf
noncomputable def f_X8_exchange_44 (x0 : Nat) (x1 : Int32) (x2 : Int32) (M : zM) : Option (Unit × zM) :=
  z_rd (M.2.1 x0 0) fun a_1 => z_call (f_X8_swap a_1 x1 x2 M) fun v_2 M_3 => z_rd (M_3.2.1 x0 4) fun a_5 => z_call (f_X8_swap a_5 x1 x2 M_3) fun v_6 M_7 => (f_X8_exchange_64 x0 x1 x2 zF 0 M_7)
set_option maxHeartbeats 2000000 in
set_option maxRecDepth 20000 in
theorem t_X8_exchange_44 {l : Launch} {x0 : Nat} {x1 : Int32} {x2 : Int32} {M MO : zM} {v : Unit} (h0 : z_tm SH 8 x0) (hf : f_X8_exchange_44 x0 x1 x2 M = some (v, MO)) : zA l yX8_exchange cX8_exchange 4 none 3 0 0 SH.length (zDv SH MO) 0 0 44 [(0, .ref x0), (1, .int x1), (2, .int x2)] [] SH M := by
  unfold f_X8_exchange_44 at hf
  refine z_aload_n dX8_exchange_44 rfl rfl ?_
  obtain ⟨a_1, ra_1, hf⟩ := z_rd_some hf
  refine zgR fl_X8_9 h0 (fun _ => rfl) ra_1 dX8_exchange_45 (fun ha_1 => ?_)
  refine z_iload_n dX8_exchange_48 rfl rfl ?_
  refine z_iload_n dX8_exchange_49 rfl rfl ?_
  obtain ⟨v_2, M_3, c_4, hf⟩ := z_call_some hf
  refine z_cSv (t_X8_swap ha_1 c_4) kw_X8_swap lk_X8_71 rfl (by decide) rfl (Nat.le_of_ble_eq_true rfl) ⟨Nat.le_refl 0, Nat.le_refl 0⟩ dX8_exchange_50 ?_
  refine z_aload_n dX8_exchange_53 rfl rfl ?_
  obtain ⟨a_5, ra_5, hf⟩ := z_rd_some hf
  refine zgR fl_X8_30 h0 (fun _ => rfl) ra_5 dX8_exchange_54 (fun ha_5 => ?_)
  refine z_iload_n dX8_exchange_57 rfl rfl ?_
  refine z_iload_n dX8_exchange_58 rfl rfl ?_
  obtain ⟨v_6, M_7, c_8, hf⟩ := z_call_some hf
  refine z_cSv (t_X8_swap ha_5 c_8) kw_X8_swap lk_X8_71 rfl (by decide) rfl (Nat.le_of_ble_eq_true rfl) ⟨Nat.le_refl 0, Nat.le_refl 0⟩ dX8_exchange_59 ?_
  refine z_iconst (v := 0) dX8_exchange_62 (by decide) ?_
  refine z_istore_n' (lv' := [(3, .int 0), (0, .ref x0), (1, .int x1), (2, .int x2)]) rfl dX8_exchange_63 (by decide) rfl rfl ?_
  refine zA.pick [(0, .ref x0), (1, .int x1), (2, .int x2), (3, .int 0)] [1, 2, 3, 0] rfl ?_
  exact t_X8_exchange_64 h0 zF 0 M_7 hf
noncomputable def f_X8_exchange (x0 : Nat) (x1 : Int32) (x2 : Int32) (M : zM) : Option (Unit × zM) :=
  z_call (f_X11_isRoom x1 M) fun v_1 M_2 => (if v_1 = 0 then some ((), M_2) else z_call (f_X11_isRoom x2 M_2) fun v_5 M_6 => (if v_5 = 0 then some ((), M_6) else z_call (f_X8_hasGuest x0 x1 M_6) fun v_9 M_10 => z_call (f_X8_hasGuest x0 x2 M_10) fun v_12 M_13 => (if v_9 = v_12 then (f_X8_exchange_44 x0 x1 x2 M_13) else zl (zu M_13.1 x0 5 ((M_13.1 x0 5) ^^^ (((1 : Int32) <<< (x1 &&& 31)) ||| ((1 : Int32) <<< (x2 &&& 31)))), M_13.2) fun M_16 => (f_X8_exchange_44 x0 x1 x2 M_16))))
set_option maxHeartbeats 2000000 in
set_option maxRecDepth 20000 in
theorem t_X8_exchange {l : Launch} {x0 : Nat} {x1 : Int32} {x2 : Int32} {M MO : zM} {v : Unit} (h0 : z_tm SH 8 x0) (hf : f_X8_exchange x0 x1 x2 M = some (v, MO)) : zMet l yX8_exchange cX8_exchange 4 none 3 0 0 [.ref x0, .int x1, .int x2] SH M (zDv SH MO) := by
  refine zMet.of (by decide +kernel) (Nat.le_of_ble_eq_true rfl) (Or.inl rfl) ?_
  show zA l yX8_exchange cX8_exchange 4 none 3 0 0 SH.length (zDv SH MO) 0 0 0 [(0, .ref x0), (1, .int x1), (2, .int x2)] [] SH M
  unfold f_X8_exchange at hf
  refine z_iload_n dX8_exchange_0 rfl rfl ?_
  obtain ⟨v_1, M_2, c_3, hf⟩ := z_call_some hf
  refine z_cSi (t_X11_isRoom  c_3) kw_X11_isRoom lk_X8_56 rfl (by decide) rfl (Nat.le_of_ble_eq_true rfl) ⟨Nat.le_refl 0, Nat.le_refl 0⟩ dX8_exchange_1 ?_
  refine z_if_eq (tgt := 14) dX8_exchange_4 (by decide) (fun q_4 => ?_) (fun q_4 => ?_)
  · have hf := (if_pos q_4).symm.trans hf
    obtain ⟨rfl, rfl⟩ := z_end hf
    exact z_vret ⟨rfl, rfl, rfl⟩ rfl dX8_exchange_14
  · have hf := (if_neg q_4).symm.trans hf
    refine z_iload_n dX8_exchange_7 rfl rfl ?_
    obtain ⟨v_5, M_6, c_7, hf⟩ := z_call_some hf
    refine z_cSi (t_X11_isRoom  c_7) kw_X11_isRoom lk_X8_56 rfl (by decide) rfl (Nat.le_of_ble_eq_true rfl) ⟨Nat.le_refl 0, Nat.le_refl 0⟩ dX8_exchange_8 ?_
    refine z_if_ne (tgt := 15) dX8_exchange_11 (by decide) (fun q_8 => ?_) (fun q_8 => ?_)
    · have hf := (if_neg q_8).symm.trans hf
      refine z_aload_n dX8_exchange_15 rfl rfl ?_
      refine z_iload_n dX8_exchange_16 rfl rfl ?_
      obtain ⟨v_9, M_10, c_11, hf⟩ := z_call_some hf
      refine z_cVi (t_X8_hasGuest h0 c_11) kw_X8_hasGuest lk_X8_68 h0 rfl (by decide) rfl (Nat.le_of_ble_eq_true rfl) ⟨Nat.le_refl 0, Nat.le_refl 0⟩ dX8_exchange_17 ?_
      refine z_aload_n dX8_exchange_20 rfl rfl ?_
      refine z_iload_n dX8_exchange_21 rfl rfl ?_
      obtain ⟨v_12, M_13, c_14, hf⟩ := z_call_some hf
      refine z_cVi (t_X8_hasGuest h0 c_14) kw_X8_hasGuest lk_X8_68 h0 rfl (by decide) rfl (Nat.le_of_ble_eq_true rfl) ⟨Nat.le_refl 0, Nat.le_refl 0⟩ dX8_exchange_22 ?_
      refine z_icmp_eq (tgt := 44) dX8_exchange_25 (by decide) (fun q_15 => ?_) (fun q_15 => ?_)
      · have hf := (if_pos q_15).symm.trans hf
        exact t_X8_exchange_44 h0 hf
      · have hf := (if_neg q_15).symm.trans hf
        refine z_aload_n dX8_exchange_28 rfl rfl ?_
        refine z_dup dX8_exchange_29 rfl ?_
        refine zgI fl_X8_47 h0 (fun _ => rfl) dX8_exchange_30 ?_
        refine z_iconst (v := 1) dX8_exchange_33 (by decide) ?_
        refine z_iload_n dX8_exchange_34 rfl rfl ?_
        refine z_ishl dX8_exchange_35 ?_
        refine z_iconst (v := 1) dX8_exchange_36 (by decide) ?_
        refine z_iload_n dX8_exchange_37 rfl rfl ?_
        refine z_ishl dX8_exchange_38 ?_
        refine z_ior dX8_exchange_39 ?_
        refine z_ixor dX8_exchange_40 ?_
        obtain ⟨M_16, eM_16, hf⟩ := zl_some hf
        refine zpI fl_X8_47 h0 rfl (Or.inl rfl) eM_16 dX8_exchange_41 ?_
        exact t_X8_exchange_44 h0 hf
    · have hf := (if_pos q_8).symm.trans hf
      obtain ⟨rfl, rfl⟩ := z_end hf
      exact z_vret ⟨rfl, rfl, rfl⟩ rfl dX8_exchange_14
noncomputable def f_X8_addGrease (x0 : Nat) (x1 : Int32) (x2 : Int32) (M : zM) : Option (Unit × zM) :=
  z_call (f_X11_isRoom x1 M) fun v_1 M_2 => (if v_1 = 0 then some ((), M_2) else z_rd (M_2.2.1 x0 2) fun a_5 => z_rd (M_2.2.1 x0 2) fun a_6 => if z_ix x1 (z_ln SH a_6) = true then if z_ix x1 (z_ln SH a_5) = true then zl (zu M_2.1 a_5 (x1 : Int32).toNatClampNeg (z_min 99999 ((M_2.1 a_6 (x1 : Int32).toNatClampNeg) + x2)), M_2.2) fun M_9 => some ((), M_9) else none else none)
set_option maxHeartbeats 2000000 in
set_option maxRecDepth 20000 in
theorem t_X8_addGrease {l : Launch} {x0 : Nat} {x1 : Int32} {x2 : Int32} {M MO : zM} {v : Unit} (h0 : z_tm SH 8 x0) (hf : f_X8_addGrease x0 x1 x2 M = some (v, MO)) : zMet l yX8_addGrease cX8_addGrease 3 none 2 0 0 [.ref x0, .int x1, .int x2] SH M (zDv SH MO) := by
  refine zMet.of (by decide +kernel) (Nat.le_of_ble_eq_true rfl) (Or.inl rfl) ?_
  show zA l yX8_addGrease cX8_addGrease 3 none 2 0 0 SH.length (zDv SH MO) 0 0 0 [(0, .ref x0), (1, .int x1), (2, .int x2)] [] SH M
  unfold f_X8_addGrease at hf
  refine z_iload_n dX8_addGrease_0 rfl rfl ?_
  obtain ⟨v_1, M_2, c_3, hf⟩ := z_call_some hf
  refine z_cSi (t_X11_isRoom  c_3) kw_X11_isRoom lk_X8_56 rfl (by decide) rfl (Nat.le_of_ble_eq_true rfl) ⟨Nat.le_refl 0, Nat.le_refl 0⟩ dX8_addGrease_1 ?_
  refine z_if_eq (tgt := 26) dX8_addGrease_4 (by decide) (fun q_4 => ?_) (fun q_4 => ?_)
  · have hf := (if_pos q_4).symm.trans hf
    obtain ⟨rfl, rfl⟩ := z_end hf
    exact z_vret ⟨rfl, rfl, rfl⟩ rfl dX8_addGrease_26
  · have hf := (if_neg q_4).symm.trans hf
    refine z_aload_n dX8_addGrease_7 rfl rfl ?_
    obtain ⟨a_5, ra_5, hf⟩ := z_rd_some hf
    refine zgR fl_X8_24 h0 (fun _ => rfl) ra_5 dX8_addGrease_8 (fun ha_5 => ?_)
    refine z_iload_n dX8_addGrease_11 rfl rfl ?_
    refine z_ldc (v := 99999) dX8_addGrease_12 cn_X8_75 ?_
    refine z_aload_n dX8_addGrease_14 rfl rfl ?_
    obtain ⟨a_6, ra_6, hf⟩ := z_rd_some hf
    refine zgR fl_X8_24 h0 (fun _ => rfl) ra_6 dX8_addGrease_15 (fun ha_6 => ?_)
    refine z_iload_n dX8_addGrease_18 rfl rfl ?_
    obtain ⟨g_7, hf⟩ := z_ifs hf
    refine z_iald ha_6 g_7 rfl dX8_addGrease_19 ?_
    refine z_iload_n dX8_addGrease_20 rfl rfl ?_
    refine z_iadd dX8_addGrease_21 ?_
    refine z_mmin mm_X8_76 mm_smin mm_ini mm_cmin (by decide) (Nat.le_of_ble_eq_true rfl) dX8_addGrease_22 ?_
    obtain ⟨g_8, hf⟩ := z_ifs hf
    obtain ⟨M_9, eM_9, hf⟩ := zl_some hf
    refine z_iast ha_5 g_8 eM_9 dX8_addGrease_25 ?_
    obtain ⟨rfl, rfl⟩ := z_end hf
    exact z_vret ⟨rfl, rfl, rfl⟩ rfl dX8_addGrease_26
noncomputable def f_X8_addFelt (x0 : Nat) (x1 : Int32) (x2 : Int32) (x3 : Int32) (M : zM) : Option (Unit × zM) :=
  z_call (f_X11_isRoom x1 M) fun v_1 M_2 => (if v_1 = 0 then some ((), M_2) else z_call (f_X11_isRoom x2 M_2) fun v_5 M_6 => (if v_5 = 0 then some ((), M_6) else z_rd (M_6.2.1 x0 3) fun a_9 => if z_ix ((x1 * 24) + x2) (z_ln SH a_9) = true then zl ((M_6.1 a_9 (((x1 * 24) + x2) : Int32).toNatClampNeg)) fun x4_11 => zl ((z_min 99999 (x4_11 + x3))) fun x5_12 => z_rd (M_6.2.1 x0 3) fun a_13 => if z_ix ((x1 * 24) + x2) (z_ln SH a_13) = true then zl (zu M_6.1 a_13 (((x1 * 24) + x2) : Int32).toNatClampNeg x5_12, M_6.2) fun M_15 => z_rd (M_15.2.1 x0 4) fun a_16 => if z_ix x1 (z_ln SH a_16) = true then if z_ix x1 (z_ln SH a_16) = true then zl (zu M_15.1 a_16 (x1 : Int32).toNatClampNeg ((M_15.1 a_16 (x1 : Int32).toNatClampNeg) + (x5_12 - x4_11)), M_15.2) fun M_19 => some ((), M_19) else none else none else none else none))
set_option maxHeartbeats 2000000 in
set_option maxRecDepth 20000 in
theorem t_X8_addFelt {l : Launch} {x0 : Nat} {x1 : Int32} {x2 : Int32} {x3 : Int32} {M MO : zM} {v : Unit} (h0 : z_tm SH 8 x0) (hf : f_X8_addFelt x0 x1 x2 x3 M = some (v, MO)) : zMet l yX8_addFelt cX8_addFelt 6 none 2 0 0 [.ref x0, .int x1, .int x2, .int x3] SH M (zDv SH MO) := by
  refine zMet.of (by decide +kernel) (Nat.le_of_ble_eq_true rfl) (Or.inl rfl) ?_
  show zA l yX8_addFelt cX8_addFelt 6 none 2 0 0 SH.length (zDv SH MO) 0 0 0 [(0, .ref x0), (1, .int x1), (2, .int x2), (3, .int x3)] [] SH M
  unfold f_X8_addFelt at hf
  refine z_iload_n dX8_addFelt_0 rfl rfl ?_
  obtain ⟨v_1, M_2, c_3, hf⟩ := z_call_some hf
  refine z_cSi (t_X11_isRoom  c_3) kw_X11_isRoom lk_X8_56 rfl (by decide) rfl (Nat.le_of_ble_eq_true rfl) ⟨Nat.le_refl 0, Nat.le_refl 0⟩ dX8_addFelt_1 ?_
  refine z_if_eq (tgt := 65) dX8_addFelt_4 (by decide) (fun q_4 => ?_) (fun q_4 => ?_)
  · have hf := (if_pos q_4).symm.trans hf
    obtain ⟨rfl, rfl⟩ := z_end hf
    exact z_vret ⟨rfl, rfl, rfl⟩ rfl dX8_addFelt_65
  · have hf := (if_neg q_4).symm.trans hf
    refine z_iload_n dX8_addFelt_7 rfl rfl ?_
    obtain ⟨v_5, M_6, c_7, hf⟩ := z_call_some hf
    refine z_cSi (t_X11_isRoom  c_7) kw_X11_isRoom lk_X8_56 rfl (by decide) rfl (Nat.le_of_ble_eq_true rfl) ⟨Nat.le_refl 0, Nat.le_refl 0⟩ dX8_addFelt_8 ?_
    refine z_if_eq (tgt := 65) dX8_addFelt_11 (by decide) (fun q_8 => ?_) (fun q_8 => ?_)
    · have hf := (if_pos q_8).symm.trans hf
      obtain ⟨rfl, rfl⟩ := z_end hf
      exact z_vret ⟨rfl, rfl, rfl⟩ rfl dX8_addFelt_65
    · have hf := (if_neg q_8).symm.trans hf
      refine z_aload_n dX8_addFelt_14 rfl rfl ?_
      obtain ⟨a_9, ra_9, hf⟩ := z_rd_some hf
      refine zgR fl_X8_27 h0 (fun _ => rfl) ra_9 dX8_addFelt_15 (fun ha_9 => ?_)
      refine z_iload_n dX8_addFelt_18 rfl rfl ?_
      refine z_bipush (v := 24) dX8_addFelt_19 (by decide) ?_
      refine z_imul dX8_addFelt_21 ?_
      refine z_iload_n dX8_addFelt_22 rfl rfl ?_
      refine z_iadd dX8_addFelt_23 ?_
      obtain ⟨g_10, hf⟩ := z_ifs hf
      refine z_iald ha_9 g_10 rfl dX8_addFelt_24 ?_
      obtain ⟨x4_11, ex4_11, hf⟩ := zl_some hf
      refine z_istore' (lv' := [(4, .int x4_11), (0, .ref x0), (1, .int x1), (2, .int x2), (3, .int x3)]) dX8_addFelt_25 (by decide) ex4_11 rfl ?_
      refine z_ldc (v := 99999) dX8_addFelt_27 cn_X8_75 ?_
      refine z_iload dX8_addFelt_29 rfl ?_
      refine z_iload_n dX8_addFelt_31 rfl rfl ?_
      refine z_iadd dX8_addFelt_32 ?_
      refine z_mmin mm_X8_76 mm_smin mm_ini mm_cmin (by decide) (Nat.le_of_ble_eq_true rfl) dX8_addFelt_33 ?_
      obtain ⟨x5_12, ex5_12, hf⟩ := zl_some hf
      refine z_istore' (lv' := [(5, .int x5_12), (4, .int x4_11), (0, .ref x0), (1, .int x1), (2, .int x2), (3, .int x3)]) dX8_addFelt_36 (by decide) ex5_12 rfl ?_
      refine z_aload_n dX8_addFelt_38 rfl rfl ?_
      obtain ⟨a_13, ra_13, hf⟩ := z_rd_some hf
      refine zgR fl_X8_27 h0 (fun _ => rfl) ra_13 dX8_addFelt_39 (fun ha_13 => ?_)
      refine z_iload_n dX8_addFelt_42 rfl rfl ?_
      refine z_bipush (v := 24) dX8_addFelt_43 (by decide) ?_
      refine z_imul dX8_addFelt_45 ?_
      refine z_iload_n dX8_addFelt_46 rfl rfl ?_
      refine z_iadd dX8_addFelt_47 ?_
      refine z_iload dX8_addFelt_48 rfl ?_
      obtain ⟨g_14, hf⟩ := z_ifs hf
      obtain ⟨M_15, eM_15, hf⟩ := zl_some hf
      refine z_iast ha_13 g_14 eM_15 dX8_addFelt_50 ?_
      refine z_aload_n dX8_addFelt_51 rfl rfl ?_
      obtain ⟨a_16, ra_16, hf⟩ := z_rd_some hf
      refine zgR fl_X8_30 h0 (fun _ => rfl) ra_16 dX8_addFelt_52 (fun ha_16 => ?_)
      refine z_iload_n dX8_addFelt_55 rfl rfl ?_
      refine z_dup2 dX8_addFelt_56 rfl rfl ?_
      obtain ⟨g_17, hf⟩ := z_ifs hf
      refine z_iald ha_16 g_17 rfl dX8_addFelt_57 ?_
      refine z_iload dX8_addFelt_58 rfl ?_
      refine z_iload dX8_addFelt_60 rfl ?_
      refine z_isub dX8_addFelt_62 ?_
      refine z_iadd dX8_addFelt_63 ?_
      obtain ⟨g_18, hf⟩ := z_ifs hf
      obtain ⟨M_19, eM_19, hf⟩ := zl_some hf
      refine z_iast ha_16 g_18 eM_19 dX8_addFelt_64 ?_
      obtain ⟨rfl, rfl⟩ := z_end hf
      exact z_vret ⟨rfl, rfl, rfl⟩ rfl dX8_addFelt_65
noncomputable def f_X8_draw (x0 : Nat) (M : zM) : Option (Int32 × zM) :=
  zl (zu M.1 x0 9 (((25173 * (M.1 x0 9)) + 13849) &&& 65535), M.2) fun M_1 => some (((M_1.1 x0 9) - (M_1.1 x0 9) / 10 * 10), M_1)
set_option maxHeartbeats 2000000 in
set_option maxRecDepth 20000 in
theorem t_X8_draw {l : Launch} {x0 : Nat} {M MO : zM} {v : Int32} (h0 : z_tm SH 8 x0) (hf : f_X8_draw x0 M = some (v, MO)) : zMet l yX8_draw cX8_draw 1 (some .int) 1 0 0 [.ref x0] SH M (zDi SH v MO) := by
  refine zMet.of (by decide +kernel) (Nat.le_of_ble_eq_true rfl) (Or.inr (Or.inl rfl)) ?_
  show zA l yX8_draw cX8_draw 1 (some .int) 1 0 0 SH.length (zDi SH v MO) 0 0 0 [(0, .ref x0)] [] SH M
  unfold f_X8_draw at hf
  refine z_aload_n dX8_draw_0 rfl rfl ?_
  refine z_sipush (v := 25173) dX8_draw_1 (by decide) ?_
  refine z_aload_n dX8_draw_4 rfl rfl ?_
  refine zgI fl_X8_38 h0 (fun _ => rfl) dX8_draw_5 ?_
  refine z_imul dX8_draw_8 ?_
  refine z_sipush (v := 13849) dX8_draw_9 (by decide) ?_
  refine z_iadd dX8_draw_12 ?_
  refine z_ldc (v := 65535) dX8_draw_13 cn_X8_81 ?_
  refine z_iand dX8_draw_15 ?_
  obtain ⟨M_1, eM_1, hf⟩ := zl_some hf
  refine zpI fl_X8_38 h0 rfl (Or.inl rfl) eM_1 dX8_draw_16 ?_
  refine z_aload_n dX8_draw_19 rfl rfl ?_
  refine zgI fl_X8_38 h0 (fun _ => rfl) dX8_draw_20 ?_
  refine z_bipush (v := 10) dX8_draw_23 (by decide) ?_
  refine z_irem dX8_draw_25 (by decide) ?_
  obtain ⟨rfl, rfl⟩ := z_end hf
  exact z_iret ⟨rfl, rfl, rfl⟩ (Or.inl rfl) dX8_draw_26
noncomputable def f_X11_floorOf (x0 : Int32) (M : zM) : Option (Int32 × zM) :=
  some ((x0 / 4), M)
set_option maxHeartbeats 2000000 in
set_option maxRecDepth 20000 in
theorem t_X11_floorOf {l : Launch} {x0 : Int32} {M MO : zM} {v : Int32} (hf : f_X11_floorOf x0 M = some (v, MO)) : zMet l yX11_floorOf cX11_floorOf 1 (some .int) 1 0 0 [.int x0] SH M (zDi SH v MO) := by
  refine zMet.of (by decide +kernel) (Nat.le_of_ble_eq_true rfl) (Or.inr (Or.inl rfl)) ?_
  show zA l yX11_floorOf cX11_floorOf 1 (some .int) 1 0 0 SH.length (zDi SH v MO) 0 0 0 [(0, .int x0)] [] SH M
  unfold f_X11_floorOf at hf
  refine z_iload_n dX11_floorOf_0 rfl rfl ?_
  refine z_iconst (v := 4) dX11_floorOf_1 (by decide) ?_
  refine z_idiv dX11_floorOf_2 (by decide) ?_
  obtain ⟨rfl, rfl⟩ := z_end hf
  exact z_iret ⟨rfl, rfl, rfl⟩ (Or.inl rfl) dX11_floorOf_3
noncomputable def f_X11_columnOf (x0 : Int32) (M : zM) : Option (Int32 × zM) :=
  some ((x0 - x0 / 4 * 4), M)
set_option maxHeartbeats 2000000 in
set_option maxRecDepth 20000 in
theorem t_X11_columnOf {l : Launch} {x0 : Int32} {M MO : zM} {v : Int32} (hf : f_X11_columnOf x0 M = some (v, MO)) : zMet l yX11_columnOf cX11_columnOf 1 (some .int) 1 0 0 [.int x0] SH M (zDi SH v MO) := by
  refine zMet.of (by decide +kernel) (Nat.le_of_ble_eq_true rfl) (Or.inr (Or.inl rfl)) ?_
  show zA l yX11_columnOf cX11_columnOf 1 (some .int) 1 0 0 SH.length (zDi SH v MO) 0 0 0 [(0, .int x0)] [] SH M
  unfold f_X11_columnOf at hf
  refine z_iload_n dX11_columnOf_0 rfl rfl ?_
  refine z_iconst (v := 4) dX11_columnOf_1 (by decide) ?_
  refine z_irem dX11_columnOf_2 (by decide) ?_
  obtain ⟨rfl, rfl⟩ := z_end hf
  exact z_iret ⟨rfl, rfl, rfl⟩ (Or.inl rfl) dX11_columnOf_3
noncomputable def f_X11_columnBy (x0 : Int32) (x1 : Int32) (M : zM) : Option (Int32 × zM) :=
  some ((z_max 0 (z_min 3 ((x0 + x1) - 1))), M)
set_option maxHeartbeats 2000000 in
set_option maxRecDepth 20000 in
theorem t_X11_columnBy {l : Launch} {x0 : Int32} {x1 : Int32} {M MO : zM} {v : Int32} (hf : f_X11_columnBy x0 x1 M = some (v, MO)) : zMet l yX11_columnBy cX11_columnBy 2 (some .int) 1 0 0 [.int x0, .int x1] SH M (zDi SH v MO) := by
  refine zMet.of (by decide +kernel) (Nat.le_of_ble_eq_true rfl) (Or.inr (Or.inl rfl)) ?_
  show zA l yX11_columnBy cX11_columnBy 2 (some .int) 1 0 0 SH.length (zDi SH v MO) 0 0 0 [(0, .int x0), (1, .int x1)] [] SH M
  unfold f_X11_columnBy at hf
  refine z_iconst (v := 0) dX11_columnBy_0 (by decide) ?_
  refine z_iconst (v := 3) dX11_columnBy_1 (by decide) ?_
  refine z_iload_n dX11_columnBy_2 rfl rfl ?_
  refine z_iload_n dX11_columnBy_3 rfl rfl ?_
  refine z_iadd dX11_columnBy_4 ?_
  refine z_iconst (v := 1) dX11_columnBy_5 (by decide) ?_
  refine z_isub dX11_columnBy_6 ?_
  refine z_mmin mm_X11_317 mm_smin mm_ini mm_cmin (by decide) (Nat.le_of_ble_eq_true rfl) dX11_columnBy_7 ?_
  refine z_mmax mm_X11_216 mm_smax mm_ini mm_cmax (by decide) (Nat.le_of_ble_eq_true rfl) dX11_columnBy_10 ?_
  obtain ⟨rfl, rfl⟩ := z_end hf
  exact z_iret ⟨rfl, rfl, rfl⟩ (Or.inl rfl) dX11_columnBy_13
noncomputable def f_X8_above (x0 : Nat) (x1 : Int32) (M : zM) : Option (Int32 × zM) :=
  z_call (f_X11_isRoom x1 M) fun v_1 M_2 => (if v_1 = 0 then some (24, M_2) else z_call (f_X11_floorOf x1 M_2) fun v_5 M_6 => (if v_5 = 5 then some (24, M_6) else z_call (f_X11_floorOf x1 M_6) fun v_9 M_10 => z_call (f_X11_columnOf x1 M_10) fun v_12 M_13 => z_rd (M_13.2.1 x0 1) fun a_15 => if z_ix x1 (z_ln SH a_15) = true then z_call (f_X11_columnBy v_12 (M_13.1 a_15 (x1 : Int32).toNatClampNeg) M_13) fun v_17 M_18 => some ((((v_9 + 1) * 4) + v_17), M_18) else none))
set_option maxHeartbeats 2000000 in
set_option maxRecDepth 20000 in
theorem t_X8_above {l : Launch} {x0 : Nat} {x1 : Int32} {M MO : zM} {v : Int32} (h0 : z_tm SH 8 x0) (hf : f_X8_above x0 x1 M = some (v, MO)) : zMet l yX8_above cX8_above 2 (some .int) 2 0 0 [.ref x0, .int x1] SH M (zDi SH v MO) := by
  refine zMet.of (by decide +kernel) (Nat.le_of_ble_eq_true rfl) (Or.inr (Or.inl rfl)) ?_
  show zA l yX8_above cX8_above 2 (some .int) 2 0 0 SH.length (zDi SH v MO) 0 0 0 [(0, .ref x0), (1, .int x1)] [] SH M
  unfold f_X8_above at hf
  refine z_iload_n dX8_above_0 rfl rfl ?_
  obtain ⟨v_1, M_2, c_3, hf⟩ := z_call_some hf
  refine z_cSi (t_X11_isRoom  c_3) kw_X11_isRoom lk_X8_56 rfl (by decide) rfl (Nat.le_of_ble_eq_true rfl) ⟨Nat.le_refl 0, Nat.le_refl 0⟩ dX8_above_1 ?_
  refine z_if_eq (tgt := 15) dX8_above_4 (by decide) (fun q_4 => ?_) (fun q_4 => ?_)
  · have hf := (if_pos q_4).symm.trans hf
    refine z_bipush (v := 24) dX8_above_15 (by decide) ?_
    obtain ⟨rfl, rfl⟩ := z_end hf
    exact z_iret ⟨rfl, rfl, rfl⟩ (Or.inl rfl) dX8_above_17
  · have hf := (if_neg q_4).symm.trans hf
    refine z_iload_n dX8_above_7 rfl rfl ?_
    obtain ⟨v_5, M_6, c_7, hf⟩ := z_call_some hf
    refine z_cSi (t_X11_floorOf  c_7) kw_X11_floorOf lk_X8_82 rfl (by decide) rfl (Nat.le_of_ble_eq_true rfl) ⟨Nat.le_refl 0, Nat.le_refl 0⟩ dX8_above_8 ?_
    refine z_iconst (v := 5) dX8_above_11 (by decide) ?_
    refine z_icmp_ne (tgt := 18) dX8_above_12 (by decide) (fun q_8 => ?_) (fun q_8 => ?_)
    · have hf := (if_neg q_8).symm.trans hf
      refine z_iload_n dX8_above_18 rfl rfl ?_
      obtain ⟨v_9, M_10, c_11, hf⟩ := z_call_some hf
      refine z_cSi (t_X11_floorOf  c_11) kw_X11_floorOf lk_X8_82 rfl (by decide) rfl (Nat.le_of_ble_eq_true rfl) ⟨Nat.le_refl 0, Nat.le_refl 0⟩ dX8_above_19 ?_
      refine z_iconst (v := 1) dX8_above_22 (by decide) ?_
      refine z_iadd dX8_above_23 ?_
      refine z_iconst (v := 4) dX8_above_24 (by decide) ?_
      refine z_imul dX8_above_25 ?_
      refine z_iload_n dX8_above_26 rfl rfl ?_
      obtain ⟨v_12, M_13, c_14, hf⟩ := z_call_some hf
      refine z_cSi (t_X11_columnOf  c_14) kw_X11_columnOf lk_X8_86 rfl (by decide) rfl (Nat.le_of_ble_eq_true rfl) ⟨Nat.le_refl 0, Nat.le_refl 0⟩ dX8_above_27 ?_
      refine z_aload_n dX8_above_30 rfl rfl ?_
      obtain ⟨a_15, ra_15, hf⟩ := z_rd_some hf
      refine zgR fl_X8_15 h0 (fun _ => rfl) ra_15 dX8_above_31 (fun ha_15 => ?_)
      refine z_iload_n dX8_above_34 rfl rfl ?_
      obtain ⟨g_16, hf⟩ := z_ifs hf
      refine z_iald ha_15 g_16 rfl dX8_above_35 ?_
      obtain ⟨v_17, M_18, c_19, hf⟩ := z_call_some hf
      refine z_cSi (t_X11_columnBy  c_19) kw_X11_columnBy lk_X8_89 rfl (by decide) rfl (Nat.le_of_ble_eq_true rfl) ⟨Nat.le_refl 0, Nat.le_refl 0⟩ dX8_above_36 ?_
      refine z_iadd dX8_above_39 ?_
      obtain ⟨rfl, rfl⟩ := z_end hf
      exact z_iret ⟨rfl, rfl, rfl⟩ (Or.inl rfl) dX8_above_40
    · have hf := (if_pos q_8).symm.trans hf
      refine z_bipush (v := 24) dX8_above_15 (by decide) ?_
      obtain ⟨rfl, rfl⟩ := z_end hf
      exact z_iret ⟨rfl, rfl, rfl⟩ (Or.inl rfl) dX8_above_17
noncomputable def f_X8_riseTo_8 (x0 : Nat) (x2 : Int32) : Nat → Int32 → Int32 → zM → Option (Int32 × zM)
  | 0, _, _, _ => none
  | n + 1, x3, x4, M =>
    (if x2 ≤ x4 then some (x3, M) else (if 5 ≤ x4 then some (x3, M) else z_call (f_X8_above x0 x3 M) fun v_3 M_4 => zl (x4 + 1) fun x4_6 => (f_X8_riseTo_8 x0 x2 n v_3 x4_6 M_4)))
set_option maxHeartbeats 2000000 in
set_option maxRecDepth 20000 in
theorem t_X8_riseTo_8 {l : Launch} {x0 : Nat} {x2 : Int32} {MO : zM} {v : Int32} (h0 : z_tm SH 8 x0) : ∀ (n : Nat) (x3 : Int32) (x4 : Int32) (M : zM), f_X8_riseTo_8 x0 x2 n x3 x4 M = some (v, MO) → zA l yX8_riseTo cX8_riseTo 5 (some .int) 3 0 0 SH.length (zDi SH v MO) 0 0 8 [(0, .ref x0), (2, .int x2), (3, .int x3), (4, .int x4)] [] SH M := by
  intro n
  induction n with
  | zero =>
    intro x3 x4 M hf
    rw [f_X8_riseTo_8] at hf
    cases hf
  | succ n ih =>
    intro x3 x4 M hf
    rw [f_X8_riseTo_8] at hf
    refine z_iload dX8_riseTo_8 rfl ?_
    refine z_iload_n dX8_riseTo_10 rfl rfl ?_
    refine z_icmp_ge (tgt := 32) dX8_riseTo_11 (by decide) (fun q_1 => ?_) (fun q_1 => ?_)
    · have hf := (if_pos q_1).symm.trans hf
      refine z_iload_n dX8_riseTo_32 rfl rfl ?_
      obtain ⟨rfl, rfl⟩ := z_end hf
      exact z_iret ⟨rfl, rfl, rfl⟩ (Or.inl rfl) dX8_riseTo_33
    · have hf := (if_neg q_1).symm.trans hf
      refine z_iload dX8_riseTo_14 rfl ?_
      refine z_iconst (v := 5) dX8_riseTo_16 (by decide) ?_
      refine z_icmp_ge (tgt := 32) dX8_riseTo_17 (by decide) (fun q_2 => ?_) (fun q_2 => ?_)
      · have hf := (if_pos q_2).symm.trans hf
        refine z_iload_n dX8_riseTo_32 rfl rfl ?_
        obtain ⟨rfl, rfl⟩ := z_end hf
        exact z_iret ⟨rfl, rfl, rfl⟩ (Or.inl rfl) dX8_riseTo_33
      · have hf := (if_neg q_2).symm.trans hf
        refine z_aload_n dX8_riseTo_20 rfl rfl ?_
        refine z_iload_n dX8_riseTo_21 rfl rfl ?_
        obtain ⟨v_3, M_4, c_5, hf⟩ := z_call_some hf
        refine z_cVi (t_X8_above h0 c_5) kw_X8_above lk_X8_92 h0 rfl (by decide) rfl (Nat.le_of_ble_eq_true rfl) ⟨Nat.le_refl 0, Nat.le_refl 0⟩ dX8_riseTo_22 ?_
        refine z_istore_n' (lv' := [(3, .int v_3), (0, .ref x0), (2, .int x2), (4, .int x4)]) rfl dX8_riseTo_25 (by decide) rfl rfl ?_
        obtain ⟨x4_6, ex4_6, hf⟩ := zl_some hf
        refine z_iinc' (lv' := [(4, .int x4_6), (3, .int v_3), (0, .ref x0), (2, .int x2)]) dX8_riseTo_26 rfl (by decide) ex4_6 (by decide) rfl ?_
        refine z_goto (tgt := 8) dX8_riseTo_29 (by decide) ?_
        refine zA.pick [(0, .ref x0), (2, .int x2), (3, .int v_3), (4, .int x4_6)] [2, 3, 1, 0] rfl ?_
        exact ih v_3 x4_6 M_4 hf
noncomputable def f_X8_riseTo (x0 : Nat) (x1 : Int32) (x2 : Int32) (M : zM) : Option (Int32 × zM) :=
  z_call (f_X11_floorOf x1 M) fun v_1 M_2 => (f_X8_riseTo_8 x0 x2 zF x1 v_1 M_2)
set_option maxHeartbeats 2000000 in
set_option maxRecDepth 20000 in
theorem t_X8_riseTo {l : Launch} {x0 : Nat} {x1 : Int32} {x2 : Int32} {M MO : zM} {v : Int32} (h0 : z_tm SH 8 x0) (hf : f_X8_riseTo x0 x1 x2 M = some (v, MO)) : zMet l yX8_riseTo cX8_riseTo 5 (some .int) 3 0 0 [.ref x0, .int x1, .int x2] SH M (zDi SH v MO) := by
  refine zMet.of (by decide +kernel) (Nat.le_of_ble_eq_true rfl) (Or.inr (Or.inl rfl)) ?_
  show zA l yX8_riseTo cX8_riseTo 5 (some .int) 3 0 0 SH.length (zDi SH v MO) 0 0 0 [(0, .ref x0), (1, .int x1), (2, .int x2)] [] SH M
  unfold f_X8_riseTo at hf
  refine z_iload_n dX8_riseTo_0 rfl rfl ?_
  refine z_istore_n' (lv' := [(3, .int x1), (0, .ref x0), (1, .int x1), (2, .int x2)]) rfl dX8_riseTo_1 (by decide) rfl rfl ?_
  refine z_iload_n dX8_riseTo_2 rfl rfl ?_
  obtain ⟨v_1, M_2, c_3, hf⟩ := z_call_some hf
  refine z_cSi (t_X11_floorOf  c_3) kw_X11_floorOf lk_X8_82 rfl (by decide) rfl (Nat.le_of_ble_eq_true rfl) ⟨Nat.le_refl 0, Nat.le_refl 0⟩ dX8_riseTo_3 ?_
  refine z_istore' (lv' := [(4, .int v_1), (3, .int x1), (0, .ref x0), (1, .int x1), (2, .int x2)]) dX8_riseTo_6 (by decide) rfl rfl ?_
  refine zA.pick [(0, .ref x0), (2, .int x2), (3, .int x1), (4, .int v_1)] [2, 4, 1, 0] rfl ?_
  exact t_X8_riseTo_8 h0 zF x1 v_1 M_2 hf
noncomputable def f_X4_clear (x0 : Nat) (M : zM) : Option (Unit × zM) :=
  zl (zu M.1 x0 6 0, M.2) fun M_1 => zl (zu M_1.1 x0 7 0, M_1.2) fun M_2 => some ((), M_2)
set_option maxHeartbeats 2000000 in
set_option maxRecDepth 20000 in
theorem t_X4_clear {l : Launch} {x0 : Nat} {M MO : zM} {v : Unit} (h0 : z_tm SH 4 x0) (hf : f_X4_clear x0 M = some (v, MO)) : zMet l yX4_clear cX4_clear 1 none 1 0 0 [.ref x0] SH M (zDv SH MO) := by
  refine zMet.of (by decide +kernel) (Nat.le_of_ble_eq_true rfl) (Or.inl rfl) ?_
  show zA l yX4_clear cX4_clear 1 none 1 0 0 SH.length (zDv SH MO) 0 0 0 [(0, .ref x0)] [] SH M
  unfold f_X4_clear at hf
  refine z_aload_n dX4_clear_0 rfl rfl ?_
  refine z_iconst (v := 0) dX4_clear_1 (by decide) ?_
  obtain ⟨M_1, eM_1, hf⟩ := zl_some hf
  refine zpI fl_X4_37 h0 rfl (Or.inl rfl) eM_1 dX4_clear_2 ?_
  refine z_aload_n dX4_clear_5 rfl rfl ?_
  refine z_iconst (v := 0) dX4_clear_6 (by decide) ?_
  obtain ⟨M_2, eM_2, hf⟩ := zl_some hf
  refine zpI fl_X4_41 h0 rfl (Or.inl rfl) eM_2 dX4_clear_7 ?_
  obtain ⟨rfl, rfl⟩ := z_end hf
  exact z_vret ⟨rfl, rfl, rfl⟩ rfl dX4_clear_10
noncomputable def f_X4_add (x0 : Nat) (x1 : Int32) (x2 : Int32) (M : zM) : Option (Int32 × zM) :=
  zl ((M.1 x0 6)) fun x3_1 => (if x3_1 < 0 then some (x3_1, M) else z_rd (M.2.1 x0 0) fun a_3 => (if (Int32.ofNat (z_ln SH a_3)) ≤ x3_1 then some (x3_1, M) else z_rd (M.2.1 x0 0) fun a_5 => if z_ix x3_1 (z_ln SH a_5) = true then zl (zu M.1 a_5 (x3_1 : Int32).toNatClampNeg x1, M.2) fun M_7 => z_rd (M_7.2.1 x0 1) fun a_8 => if z_ix x3_1 (z_ln SH a_8) = true then zl (zu M_7.1 a_8 (x3_1 : Int32).toNatClampNeg x2, M_7.2) fun M_10 => zl (zu M_10.1 x0 6 ((M_10.1 x0 6) + 1), M_10.2) fun M_11 => some (x3_1, M_11) else none else none))
set_option maxHeartbeats 2000000 in
set_option maxRecDepth 20000 in
theorem t_X4_add {l : Launch} {x0 : Nat} {x1 : Int32} {x2 : Int32} {M MO : zM} {v : Int32} (h0 : z_tm SH 4 x0) (hf : f_X4_add x0 x1 x2 M = some (v, MO)) : zMet l yX4_add cX4_add 4 (some .int) 1 0 0 [.ref x0, .int x1, .int x2] SH M (zDi SH v MO) := by
  refine zMet.of (by decide +kernel) (Nat.le_of_ble_eq_true rfl) (Or.inr (Or.inl rfl)) ?_
  show zA l yX4_add cX4_add 4 (some .int) 1 0 0 SH.length (zDi SH v MO) 0 0 0 [(0, .ref x0), (1, .int x1), (2, .int x2)] [] SH M
  unfold f_X4_add at hf
  refine z_aload_n dX4_add_0 rfl rfl ?_
  refine zgI fl_X4_37 h0 (fun _ => rfl) dX4_add_1 ?_
  obtain ⟨x3_1, ex3_1, hf⟩ := zl_some hf
  refine z_istore_n' (lv' := [(3, .int x3_1), (0, .ref x0), (1, .int x1), (2, .int x2)]) rfl dX4_add_4 (by decide) ex3_1 rfl ?_
  refine z_iload_n dX4_add_5 rfl rfl ?_
  refine z_if_lt (tgt := 42) dX4_add_6 (by decide) (fun q_2 => ?_) (fun q_2 => ?_)
  · have hf := (if_pos q_2).symm.trans hf
    refine z_iload_n dX4_add_42 rfl rfl ?_
    obtain ⟨rfl, rfl⟩ := z_end hf
    exact z_iret ⟨rfl, rfl, rfl⟩ (Or.inl rfl) dX4_add_43
  · have hf := (if_neg q_2).symm.trans hf
    refine z_iload_n dX4_add_9 rfl rfl ?_
    refine z_aload_n dX4_add_10 rfl rfl ?_
    obtain ⟨a_3, ra_3, hf⟩ := z_rd_some hf
    refine zgR fl_X4_9 h0 (fun _ => rfl) ra_3 dX4_add_11 (fun ha_3 => ?_)
    refine z_alen ha_3 rfl dX4_add_14 ?_
    refine z_icmp_ge (tgt := 42) dX4_add_15 (by decide) (fun q_4 => ?_) (fun q_4 => ?_)
    · have hf := (if_pos q_4).symm.trans hf
      refine z_iload_n dX4_add_42 rfl rfl ?_
      obtain ⟨rfl, rfl⟩ := z_end hf
      exact z_iret ⟨rfl, rfl, rfl⟩ (Or.inl rfl) dX4_add_43
    · have hf := (if_neg q_4).symm.trans hf
      refine z_aload_n dX4_add_18 rfl rfl ?_
      obtain ⟨a_5, ra_5, hf⟩ := z_rd_some hf
      refine zgR fl_X4_9 h0 (fun _ => rfl) ra_5 dX4_add_19 (fun ha_5 => ?_)
      refine z_iload_n dX4_add_22 rfl rfl ?_
      refine z_iload_n dX4_add_23 rfl rfl ?_
      obtain ⟨g_6, hf⟩ := z_ifs hf
      obtain ⟨M_7, eM_7, hf⟩ := zl_some hf
      refine z_iast ha_5 g_6 eM_7 dX4_add_24 ?_
      refine z_aload_n dX4_add_25 rfl rfl ?_
      obtain ⟨a_8, ra_8, hf⟩ := z_rd_some hf
      refine zgR fl_X4_15 h0 (fun _ => rfl) ra_8 dX4_add_26 (fun ha_8 => ?_)
      refine z_iload_n dX4_add_29 rfl rfl ?_
      refine z_iload_n dX4_add_30 rfl rfl ?_
      obtain ⟨g_9, hf⟩ := z_ifs hf
      obtain ⟨M_10, eM_10, hf⟩ := zl_some hf
      refine z_iast ha_8 g_9 eM_10 dX4_add_31 ?_
      refine z_aload_n dX4_add_32 rfl rfl ?_
      refine z_dup dX4_add_33 rfl ?_
      refine zgI fl_X4_37 h0 (fun _ => rfl) dX4_add_34 ?_
      refine z_iconst (v := 1) dX4_add_37 (by decide) ?_
      refine z_iadd dX4_add_38 ?_
      obtain ⟨M_11, eM_11, hf⟩ := zl_some hf
      refine zpI fl_X4_37 h0 rfl (Or.inl rfl) eM_11 dX4_add_39 ?_
      refine z_iload_n dX4_add_42 rfl rfl ?_
      obtain ⟨rfl, rfl⟩ := z_end hf
      exact z_iret ⟨rfl, rfl, rfl⟩ (Or.inl rfl) dX4_add_43
noncomputable def f_X4_leadToHere (x0 : Nat) (x1 : Int32) (M : zM) : Option (Unit × zM) :=
  (if x1 < 0 then some ((), M) else (if (M.1 x0 6) ≤ x1 then some ((), M) else z_rd (M.2.1 x0 1) fun a_3 => if z_ix x1 (z_ln SH a_3) = true then zl (zu M.1 a_3 (x1 : Int32).toNatClampNeg (M.1 x0 6), M.2) fun M_5 => some ((), M_5) else none))
set_option maxHeartbeats 2000000 in
set_option maxRecDepth 20000 in
theorem t_X4_leadToHere {l : Launch} {x0 : Nat} {x1 : Int32} {M MO : zM} {v : Unit} (h0 : z_tm SH 4 x0) (hf : f_X4_leadToHere x0 x1 M = some (v, MO)) : zMet l yX4_leadToHere cX4_leadToHere 2 none 1 0 0 [.ref x0, .int x1] SH M (zDv SH MO) := by
  refine zMet.of (by decide +kernel) (Nat.le_of_ble_eq_true rfl) (Or.inl rfl) ?_
  show zA l yX4_leadToHere cX4_leadToHere 2 none 1 0 0 SH.length (zDv SH MO) 0 0 0 [(0, .ref x0), (1, .int x1)] [] SH M
  unfold f_X4_leadToHere at hf
  refine z_iload_n dX4_leadToHere_0 rfl rfl ?_
  refine z_if_lt (tgt := 22) dX4_leadToHere_1 (by decide) (fun q_1 => ?_) (fun q_1 => ?_)
  · have hf := (if_pos q_1).symm.trans hf
    obtain ⟨rfl, rfl⟩ := z_end hf
    exact z_vret ⟨rfl, rfl, rfl⟩ rfl dX4_leadToHere_22
  · have hf := (if_neg q_1).symm.trans hf
    refine z_iload_n dX4_leadToHere_4 rfl rfl ?_
    refine z_aload_n dX4_leadToHere_5 rfl rfl ?_
    refine zgI fl_X4_37 h0 (fun _ => rfl) dX4_leadToHere_6 ?_
    refine z_icmp_ge (tgt := 22) dX4_leadToHere_9 (by decide) (fun q_2 => ?_) (fun q_2 => ?_)
    · have hf := (if_pos q_2).symm.trans hf
      obtain ⟨rfl, rfl⟩ := z_end hf
      exact z_vret ⟨rfl, rfl, rfl⟩ rfl dX4_leadToHere_22
    · have hf := (if_neg q_2).symm.trans hf
      refine z_aload_n dX4_leadToHere_12 rfl rfl ?_
      obtain ⟨a_3, ra_3, hf⟩ := z_rd_some hf
      refine zgR fl_X4_15 h0 (fun _ => rfl) ra_3 dX4_leadToHere_13 (fun ha_3 => ?_)
      refine z_iload_n dX4_leadToHere_16 rfl rfl ?_
      refine z_aload_n dX4_leadToHere_17 rfl rfl ?_
      refine zgI fl_X4_37 h0 (fun _ => rfl) dX4_leadToHere_18 ?_
      obtain ⟨g_4, hf⟩ := z_ifs hf
      obtain ⟨M_5, eM_5, hf⟩ := zl_some hf
      refine z_iast ha_3 g_4 eM_5 dX4_leadToHere_21 ?_
      obtain ⟨rfl, rfl⟩ := z_end hf
      exact z_vret ⟨rfl, rfl, rfl⟩ rfl dX4_leadToHere_22
noncomputable def f_X4_addRule (x0 : Nat) (x1 : Int32) (x2 : Int32) (x3 : Int32) (M : zM) : Option (Unit × zM) :=
  (if (M.1 x0 7) < 0 then some ((), M) else z_rd (M.2.1 x0 2) fun a_2 => (if (Int32.ofNat (z_ln SH a_2)) ≤ (M.1 x0 7) then some ((), M) else z_rd (M.2.1 x0 2) fun a_4 => if z_ix (M.1 x0 7) (z_ln SH a_4) = true then zl (zu M.1 a_4 ((M.1 x0 7) : Int32).toNatClampNeg x1, M.2) fun M_6 => z_rd (M_6.2.1 x0 3) fun a_7 => if z_ix (M_6.1 x0 7) (z_ln SH a_7) = true then zl (zu M_6.1 a_7 ((M_6.1 x0 7) : Int32).toNatClampNeg x2, M_6.2) fun M_9 => z_rd (M_9.2.1 x0 4) fun a_10 => if z_ix (M_9.1 x0 7) (z_ln SH a_10) = true then zl (zu M_9.1 a_10 ((M_9.1 x0 7) : Int32).toNatClampNeg x3, M_9.2) fun M_12 => z_rd (M_12.2.1 x0 5) fun a_13 => if z_ix (M_12.1 x0 7) (z_ln SH a_13) = true then zl (zu M_12.1 a_13 ((M_12.1 x0 7) : Int32).toNatClampNeg (M_12.1 x0 6), M_12.2) fun M_15 => zl (zu M_15.1 x0 7 ((M_15.1 x0 7) + 1), M_15.2) fun M_16 => some ((), M_16) else none else none else none else none))
set_option maxHeartbeats 2000000 in
set_option maxRecDepth 20000 in
theorem t_X4_addRule {l : Launch} {x0 : Nat} {x1 : Int32} {x2 : Int32} {x3 : Int32} {M MO : zM} {v : Unit} (h0 : z_tm SH 4 x0) (hf : f_X4_addRule x0 x1 x2 x3 M = some (v, MO)) : zMet l yX4_addRule cX4_addRule 4 none 1 0 0 [.ref x0, .int x1, .int x2, .int x3] SH M (zDv SH MO) := by
  refine zMet.of (by decide +kernel) (Nat.le_of_ble_eq_true rfl) (Or.inl rfl) ?_
  show zA l yX4_addRule cX4_addRule 4 none 1 0 0 SH.length (zDv SH MO) 0 0 0 [(0, .ref x0), (1, .int x1), (2, .int x2), (3, .int x3)] [] SH M
  unfold f_X4_addRule at hf
  refine z_aload_n dX4_addRule_0 rfl rfl ?_
  refine zgI fl_X4_41 h0 (fun _ => rfl) dX4_addRule_1 ?_
  refine z_if_lt (tgt := 72) dX4_addRule_4 (by decide) (fun q_1 => ?_) (fun q_1 => ?_)
  · have hf := (if_pos q_1).symm.trans hf
    obtain ⟨rfl, rfl⟩ := z_end hf
    exact z_vret ⟨rfl, rfl, rfl⟩ rfl dX4_addRule_72
  · have hf := (if_neg q_1).symm.trans hf
    refine z_aload_n dX4_addRule_7 rfl rfl ?_
    refine zgI fl_X4_41 h0 (fun _ => rfl) dX4_addRule_8 ?_
    refine z_aload_n dX4_addRule_11 rfl rfl ?_
    obtain ⟨a_2, ra_2, hf⟩ := z_rd_some hf
    refine zgR fl_X4_18 h0 (fun _ => rfl) ra_2 dX4_addRule_12 (fun ha_2 => ?_)
    refine z_alen ha_2 rfl dX4_addRule_15 ?_
    refine z_icmp_ge (tgt := 72) dX4_addRule_16 (by decide) (fun q_3 => ?_) (fun q_3 => ?_)
    · have hf := (if_pos q_3).symm.trans hf
      obtain ⟨rfl, rfl⟩ := z_end hf
      exact z_vret ⟨rfl, rfl, rfl⟩ rfl dX4_addRule_72
    · have hf := (if_neg q_3).symm.trans hf
      refine z_aload_n dX4_addRule_19 rfl rfl ?_
      obtain ⟨a_4, ra_4, hf⟩ := z_rd_some hf
      refine zgR fl_X4_18 h0 (fun _ => rfl) ra_4 dX4_addRule_20 (fun ha_4 => ?_)
      refine z_aload_n dX4_addRule_23 rfl rfl ?_
      refine zgI fl_X4_41 h0 (fun _ => rfl) dX4_addRule_24 ?_
      refine z_iload_n dX4_addRule_27 rfl rfl ?_
      obtain ⟨g_5, hf⟩ := z_ifs hf
      obtain ⟨M_6, eM_6, hf⟩ := zl_some hf
      refine z_iast ha_4 g_5 eM_6 dX4_addRule_28 ?_
      refine z_aload_n dX4_addRule_29 rfl rfl ?_
      obtain ⟨a_7, ra_7, hf⟩ := z_rd_some hf
      refine zgR fl_X4_21 h0 (fun _ => rfl) ra_7 dX4_addRule_30 (fun ha_7 => ?_)
      refine z_aload_n dX4_addRule_33 rfl rfl ?_
      refine zgI fl_X4_41 h0 (fun _ => rfl) dX4_addRule_34 ?_
      refine z_iload_n dX4_addRule_37 rfl rfl ?_
      obtain ⟨g_8, hf⟩ := z_ifs hf
      obtain ⟨M_9, eM_9, hf⟩ := zl_some hf
      refine z_iast ha_7 g_8 eM_9 dX4_addRule_38 ?_
      refine z_aload_n dX4_addRule_39 rfl rfl ?_
      obtain ⟨a_10, ra_10, hf⟩ := z_rd_some hf
      refine zgR fl_X4_24 h0 (fun _ => rfl) ra_10 dX4_addRule_40 (fun ha_10 => ?_)
      refine z_aload_n dX4_addRule_43 rfl rfl ?_
      refine zgI fl_X4_41 h0 (fun _ => rfl) dX4_addRule_44 ?_
      refine z_iload_n dX4_addRule_47 rfl rfl ?_
      obtain ⟨g_11, hf⟩ := z_ifs hf
      obtain ⟨M_12, eM_12, hf⟩ := zl_some hf
      refine z_iast ha_10 g_11 eM_12 dX4_addRule_48 ?_
      refine z_aload_n dX4_addRule_49 rfl rfl ?_
      obtain ⟨a_13, ra_13, hf⟩ := z_rd_some hf
      refine zgR fl_X4_27 h0 (fun _ => rfl) ra_13 dX4_addRule_50 (fun ha_13 => ?_)
      refine z_aload_n dX4_addRule_53 rfl rfl ?_
      refine zgI fl_X4_41 h0 (fun _ => rfl) dX4_addRule_54 ?_
      refine z_aload_n dX4_addRule_57 rfl rfl ?_
      refine zgI fl_X4_37 h0 (fun _ => rfl) dX4_addRule_58 ?_
      obtain ⟨g_14, hf⟩ := z_ifs hf
      obtain ⟨M_15, eM_15, hf⟩ := zl_some hf
      refine z_iast ha_13 g_14 eM_15 dX4_addRule_61 ?_
      refine z_aload_n dX4_addRule_62 rfl rfl ?_
      refine z_dup dX4_addRule_63 rfl ?_
      refine zgI fl_X4_41 h0 (fun _ => rfl) dX4_addRule_64 ?_
      refine z_iconst (v := 1) dX4_addRule_67 (by decide) ?_
      refine z_iadd dX4_addRule_68 ?_
      obtain ⟨M_16, eM_16, hf⟩ := zl_some hf
      refine zpI fl_X4_41 h0 rfl (Or.inl rfl) eM_16 dX4_addRule_69 ?_
      obtain ⟨rfl, rfl⟩ := z_end hf
      exact z_vret ⟨rfl, rfl, rfl⟩ rfl dX4_addRule_72
noncomputable def f_X4_look (x0 : Nat) (x1 : Nat) (x2 : Int32) (x3 : Int32) (x4 : Int32) (M : zM) : Option (Unit × zM) :=
  zl (M.1, zu M.2.1 x0 12 (some x1), M.2.2) fun M_1 => zl (zu M_1.1 x0 13 x2, M_1.2) fun M_2 => zl (zu M_2.1 x0 14 x3, M_2.2) fun M_3 => zl (zu M_3.1 x0 15 x4, M_3.2) fun M_4 => some ((), M_4)
set_option maxHeartbeats 2000000 in
set_option maxRecDepth 20000 in
theorem t_X4_look {l : Launch} {x0 : Nat} {x1 : Nat} {x2 : Int32} {x3 : Int32} {x4 : Int32} {M MO : zM} {v : Unit} (h0 : z_tm SH 4 x0) (h1 : z_tm SH 8 x1) (hf : f_X4_look x0 x1 x2 x3 x4 M = some (v, MO)) : zMet l yX4_look cX4_look 5 none 1 0 0 [.ref x0, .ref x1, .int x2, .int x3, .int x4] SH M (zDv SH MO) := by
  refine zMet.of (by decide +kernel) (Nat.le_of_ble_eq_true rfl) (Or.inl rfl) ?_
  show zA l yX4_look cX4_look 5 none 1 0 0 SH.length (zDv SH MO) 0 0 0 [(0, .ref x0), (1, .ref x1), (2, .int x2), (3, .int x3), (4, .int x4)] [] SH M
  unfold f_X4_look at hf
  refine z_aload_n dX4_look_0 rfl rfl ?_
  refine z_aload_n dX4_look_1 rfl rfl ?_
  obtain ⟨M_1, eM_1, hf⟩ := zl_some hf
  refine zpR fl_X4_33 h0 rfl (Or.inl ⟨_, rfl⟩) h1 eM_1 dX4_look_2 ?_
  refine z_aload_n dX4_look_5 rfl rfl ?_
  refine z_iload_n dX4_look_6 rfl rfl ?_
  obtain ⟨M_2, eM_2, hf⟩ := zl_some hf
  refine zpI fl_X4_44 h0 rfl (Or.inl rfl) eM_2 dX4_look_7 ?_
  refine z_aload_n dX4_look_10 rfl rfl ?_
  refine z_iload_n dX4_look_11 rfl rfl ?_
  obtain ⟨M_3, eM_3, hf⟩ := zl_some hf
  refine zpI fl_X4_47 h0 rfl (Or.inl rfl) eM_3 dX4_look_12 ?_
  refine z_aload_n dX4_look_15 rfl rfl ?_
  refine z_iload dX4_look_16 rfl ?_
  obtain ⟨M_4, eM_4, hf⟩ := zl_some hf
  refine zpI fl_X4_50 h0 rfl (Or.inl rfl) eM_4 dX4_look_18 ?_
  obtain ⟨rfl, rfl⟩ := z_end hf
  exact z_vret ⟨rfl, rfl, rfl⟩ rfl dX4_look_21
noncomputable def f_X4_compareTwo_101 (s0 : Nat) (s1 : Int32) (M : zM) : Option (Unit × zM) :=
  if ((s1 : Int32) = 0 ∨ (s1 : Int32) = 1) then zl (zu M.1 s0 10 s1, M.2) fun M_2 => some ((), M_2) else none
set_option maxHeartbeats 2000000 in
set_option maxRecDepth 20000 in
theorem t_X4_compareTwo_101 {l : Launch} {s0 : Nat} {s1 : Int32} {M MO : zM} {v : Unit} (hs0 : z_tm SH 4 s0) (hf : f_X4_compareTwo_101  s0 s1 M = some (v, MO)) : zA l yX4_compareTwo cX4_compareTwo 4 none 1 0 0 SH.length (zDv SH MO) 0 0 101 [] [.int s1, .ref s0] SH M := by
  unfold f_X4_compareTwo_101 at hf
  obtain ⟨g_1, hf⟩ := z_ifs hf
  obtain ⟨M_2, eM_2, hf⟩ := zl_some hf
  refine zpI fl_X4_57 hs0 rfl (Or.inr ⟨rfl, g_1⟩) eM_2 dX4_compareTwo_101 ?_
  obtain ⟨rfl, rfl⟩ := z_end hf
  exact z_vret ⟨rfl, rfl, rfl⟩ rfl dX4_compareTwo_104
noncomputable def f_X4_compareTwo (x0 : Nat) (x1 : Int32) (M : zM) : Option (Unit × zM) :=
  (if (M.1 x0 9) < 2 then some ((), M) else (if (M.1 x0 9) ≤ 15 then z_rd (M.2.1 x0 8) fun a_3 => if z_ix ((M.1 x0 9) - 1) (z_ln SH a_3) = true then zl ((M.1 a_3 (((M.1 x0 9) - 1) : Int32).toNatClampNeg)) fun x2_5 => z_rd (M.2.1 x0 8) fun a_6 => if z_ix ((M.1 x0 9) - 2) (z_ln SH a_6) = true then zl ((M.1 a_6 (((M.1 x0 9) - 2) : Int32).toNatClampNeg)) fun x3_8 => zl (zu M.1 x0 9 ((M.1 x0 9) - 2), M.2) fun M_9 => (if x1 = 60 then (if x2_5 ≤ x3_8 then (f_X4_compareTwo_101 x0 0 M_9) else (f_X4_compareTwo_101 x0 1 M_9)) else (if x1 = 62 then (if x3_8 ≤ x2_5 then (f_X4_compareTwo_101 x0 0 M_9) else (f_X4_compareTwo_101 x0 1 M_9)) else (if x3_8 = x2_5 then (f_X4_compareTwo_101 x0 1 M_9) else (f_X4_compareTwo_101 x0 0 M_9)))) else none else none else some ((), M)))
set_option maxHeartbeats 2000000 in
set_option maxRecDepth 20000 in
theorem t_X4_compareTwo {l : Launch} {x0 : Nat} {x1 : Int32} {M MO : zM} {v : Unit} (h0 : z_tm SH 4 x0) (hf : f_X4_compareTwo x0 x1 M = some (v, MO)) : zMet l yX4_compareTwo cX4_compareTwo 4 none 1 0 0 [.ref x0, .int x1] SH M (zDv SH MO) := by
  refine zMet.of (by decide +kernel) (Nat.le_of_ble_eq_true rfl) (Or.inl rfl) ?_
  show zA l yX4_compareTwo cX4_compareTwo 4 none 1 0 0 SH.length (zDv SH MO) 0 0 0 [(0, .ref x0), (1, .int x1)] [] SH M
  unfold f_X4_compareTwo at hf
  refine z_aload_n dX4_compareTwo_0 rfl rfl ?_
  refine zgI fl_X4_73 h0 (fun _ => rfl) dX4_compareTwo_1 ?_
  refine z_iconst (v := 2) dX4_compareTwo_4 (by decide) ?_
  refine z_icmp_lt (tgt := 17) dX4_compareTwo_5 (by decide) (fun q_1 => ?_) (fun q_1 => ?_)
  · have hf := (if_pos q_1).symm.trans hf
    obtain ⟨rfl, rfl⟩ := z_end hf
    exact z_vret ⟨rfl, rfl, rfl⟩ rfl dX4_compareTwo_17
  · have hf := (if_neg q_1).symm.trans hf
    refine z_aload_n dX4_compareTwo_8 rfl rfl ?_
    refine zgI fl_X4_73 h0 (fun _ => rfl) dX4_compareTwo_9 ?_
    refine z_bipush (v := 15) dX4_compareTwo_12 (by decide) ?_
    refine z_icmp_le (tgt := 18) dX4_compareTwo_14 (by decide) (fun q_2 => ?_) (fun q_2 => ?_)
    · have hf := (if_pos q_2).symm.trans hf
      refine z_aload_n dX4_compareTwo_18 rfl rfl ?_
      obtain ⟨a_3, ra_3, hf⟩ := z_rd_some hf
      refine zgR fl_X4_30 h0 (fun _ => rfl) ra_3 dX4_compareTwo_19 (fun ha_3 => ?_)
      refine z_aload_n dX4_compareTwo_22 rfl rfl ?_
      refine zgI fl_X4_73 h0 (fun _ => rfl) dX4_compareTwo_23 ?_
      refine z_iconst (v := 1) dX4_compareTwo_26 (by decide) ?_
      refine z_isub dX4_compareTwo_27 ?_
      obtain ⟨g_4, hf⟩ := z_ifs hf
      refine z_iald ha_3 g_4 rfl dX4_compareTwo_28 ?_
      obtain ⟨x2_5, ex2_5, hf⟩ := zl_some hf
      refine z_istore_n' (lv' := [(2, .int x2_5), (0, .ref x0), (1, .int x1)]) rfl dX4_compareTwo_29 (by decide) ex2_5 rfl ?_
      refine z_aload_n dX4_compareTwo_30 rfl rfl ?_
      obtain ⟨a_6, ra_6, hf⟩ := z_rd_some hf
      refine zgR fl_X4_30 h0 (fun _ => rfl) ra_6 dX4_compareTwo_31 (fun ha_6 => ?_)
      refine z_aload_n dX4_compareTwo_34 rfl rfl ?_
      refine zgI fl_X4_73 h0 (fun _ => rfl) dX4_compareTwo_35 ?_
      refine z_iconst (v := 2) dX4_compareTwo_38 (by decide) ?_
      refine z_isub dX4_compareTwo_39 ?_
      obtain ⟨g_7, hf⟩ := z_ifs hf
      refine z_iald ha_6 g_7 rfl dX4_compareTwo_40 ?_
      obtain ⟨x3_8, ex3_8, hf⟩ := zl_some hf
      refine z_istore_n' (lv' := [(3, .int x3_8), (2, .int x2_5), (0, .ref x0), (1, .int x1)]) rfl dX4_compareTwo_41 (by decide) ex3_8 rfl ?_
      refine z_aload_n dX4_compareTwo_42 rfl rfl ?_
      refine z_dup dX4_compareTwo_43 rfl ?_
      refine zgI fl_X4_73 h0 (fun _ => rfl) dX4_compareTwo_44 ?_
      refine z_iconst (v := 2) dX4_compareTwo_47 (by decide) ?_
      refine z_isub dX4_compareTwo_48 ?_
      obtain ⟨M_9, eM_9, hf⟩ := zl_some hf
      refine zpI fl_X4_73 h0 rfl (Or.inl rfl) eM_9 dX4_compareTwo_49 ?_
      refine z_aload_n dX4_compareTwo_52 rfl rfl ?_
      refine z_iload_n dX4_compareTwo_53 rfl rfl ?_
      refine z_bipush (v := 60) dX4_compareTwo_54 (by decide) ?_
      refine z_icmp_ne (tgt := 72) dX4_compareTwo_56 (by decide) (fun q_10 => ?_) (fun q_10 => ?_)
      · have hf := (if_neg q_10).symm.trans hf
        refine z_iload_n dX4_compareTwo_72 rfl rfl ?_
        refine z_bipush (v := 62) dX4_compareTwo_73 (by decide) ?_
        refine z_icmp_ne (tgt := 91) dX4_compareTwo_75 (by decide) (fun q_11 => ?_) (fun q_11 => ?_)
        · have hf := (if_neg q_11).symm.trans hf
          refine z_iload_n dX4_compareTwo_91 rfl rfl ?_
          refine z_iload_n dX4_compareTwo_92 rfl rfl ?_
          refine z_icmp_ne (tgt := 100) dX4_compareTwo_93 (by decide) (fun q_12 => ?_) (fun q_12 => ?_)
          · have hf := (if_neg q_12).symm.trans hf
            refine z_iconst (v := 0) dX4_compareTwo_100 (by decide) ?_
            refine zA.pick [] [] rfl ?_
            exact t_X4_compareTwo_101 h0 hf
          · have hf := (if_pos q_12).symm.trans hf
            refine z_iconst (v := 1) dX4_compareTwo_96 (by decide) ?_
            refine z_goto (tgt := 101) dX4_compareTwo_97 (by decide) ?_
            refine zA.pick [] [] rfl ?_
            exact t_X4_compareTwo_101 h0 hf
        · have hf := (if_pos q_11).symm.trans hf
          refine z_iload_n dX4_compareTwo_78 rfl rfl ?_
          refine z_iload_n dX4_compareTwo_79 rfl rfl ?_
          refine z_icmp_le (tgt := 87) dX4_compareTwo_80 (by decide) (fun q_13 => ?_) (fun q_13 => ?_)
          · have hf := (if_pos q_13).symm.trans hf
            refine z_iconst (v := 0) dX4_compareTwo_87 (by decide) ?_
            refine z_goto (tgt := 101) dX4_compareTwo_88 (by decide) ?_
            refine zA.pick [] [] rfl ?_
            exact t_X4_compareTwo_101 h0 hf
          · have hf := (if_neg q_13).symm.trans hf
            refine z_iconst (v := 1) dX4_compareTwo_83 (by decide) ?_
            refine z_goto (tgt := 101) dX4_compareTwo_84 (by decide) ?_
            refine zA.pick [] [] rfl ?_
            exact t_X4_compareTwo_101 h0 hf
      · have hf := (if_pos q_10).symm.trans hf
        refine z_iload_n dX4_compareTwo_59 rfl rfl ?_
        refine z_iload_n dX4_compareTwo_60 rfl rfl ?_
        refine z_icmp_ge (tgt := 68) dX4_compareTwo_61 (by decide) (fun q_14 => ?_) (fun q_14 => ?_)
        · have hf := (if_pos q_14).symm.trans hf
          refine z_iconst (v := 0) dX4_compareTwo_68 (by decide) ?_
          refine z_goto (tgt := 101) dX4_compareTwo_69 (by decide) ?_
          refine zA.pick [] [] rfl ?_
          exact t_X4_compareTwo_101 h0 hf
        · have hf := (if_neg q_14).symm.trans hf
          refine z_iconst (v := 1) dX4_compareTwo_64 (by decide) ?_
          refine z_goto (tgt := 101) dX4_compareTwo_65 (by decide) ?_
          refine zA.pick [] [] rfl ?_
          exact t_X4_compareTwo_101 h0 hf
    · have hf := (if_neg q_2).symm.trans hf
      obtain ⟨rfl, rfl⟩ := z_end hf
      exact z_vret ⟨rfl, rfl, rfl⟩ rfl dX4_compareTwo_17
noncomputable def f_X4_reckonTwo_158 (s0 : Nat) (s1 : Int32) (s2 : Int32) (M : zM) : Option (Unit × zM) :=
  if z_ix s1 (z_ln SH s0) = true then zl (zu M.1 s0 (s1 : Int32).toNatClampNeg s2, M.2) fun M_2 => some ((), M_2) else none
set_option maxHeartbeats 2000000 in
set_option maxRecDepth 20000 in
theorem t_X4_reckonTwo_158 {l : Launch} {s0 : Nat} {s1 : Int32} {s2 : Int32} {M MO : zM} {v : Unit} (hs0 : z_tm SH 100 s0) (hf : f_X4_reckonTwo_158  s0 s1 s2 M = some (v, MO)) : zA l yX4_reckonTwo cX4_reckonTwo 4 none 1 0 0 SH.length (zDv SH MO) 0 0 158 [] [.int s2, .int s1, .ref s0] SH M := by
  unfold f_X4_reckonTwo_158 at hf
  obtain ⟨g_1, hf⟩ := z_ifs hf
  obtain ⟨M_2, eM_2, hf⟩ := zl_some hf
  refine z_iast hs0 g_1 eM_2 dX4_reckonTwo_158 ?_
  obtain ⟨rfl, rfl⟩ := z_end hf
  exact z_vret ⟨rfl, rfl, rfl⟩ rfl dX4_reckonTwo_159
noncomputable def f_X4_reckonTwo (x0 : Nat) (x1 : Int32) (M : zM) : Option (Unit × zM) :=
  (if (M.1 x0 9) < 2 then some ((), M) else (if (M.1 x0 9) ≤ 15 then z_rd (M.2.1 x0 8) fun a_3 => if z_ix ((M.1 x0 9) - 1) (z_ln SH a_3) = true then zl ((M.1 a_3 (((M.1 x0 9) - 1) : Int32).toNatClampNeg)) fun x2_5 => z_rd (M.2.1 x0 8) fun a_6 => if z_ix ((M.1 x0 9) - 2) (z_ln SH a_6) = true then zl ((M.1 a_6 (((M.1 x0 9) - 2) : Int32).toNatClampNeg)) fun x3_8 => zl (zu M.1 x0 9 ((M.1 x0 9) - 1), M.2) fun M_9 => (if x1 = 43 then z_rd (M_9.2.1 x0 8) fun a_25 => if z_ix ((M_9.1 x0 9) - 1) (z_ln SH a_25) = true then zl (zu M_9.1 a_25 (((M_9.1 x0 9) - 1) : Int32).toNatClampNeg (x3_8 + x2_5), M_9.2) fun M_27 => some ((), M_27) else none else (if x1 = 45 then z_rd (M_9.2.1 x0 8) fun a_22 => if z_ix ((M_9.1 x0 9) - 1) (z_ln SH a_22) = true then zl (zu M_9.1 a_22 (((M_9.1 x0 9) - 1) : Int32).toNatClampNeg (x3_8 - x2_5), M_9.2) fun M_24 => some ((), M_24) else none else (if x1 = 42 then z_rd (M_9.2.1 x0 8) fun a_19 => if z_ix ((M_9.1 x0 9) - 1) (z_ln SH a_19) = true then zl (zu M_9.1 a_19 (((M_9.1 x0 9) - 1) : Int32).toNatClampNeg (x3_8 * x2_5), M_9.2) fun M_21 => some ((), M_21) else none else (if x2_5 = 0 then zl (zu M_9.1 x0 11 1, M_9.2) fun M_18 => some ((), M_18) else z_rd (M_9.2.1 x0 8) fun a_14 => (if x1 = 47 then if ¬ ((x2_5 : Int32) = 0) then (f_X4_reckonTwo_158 a_14 ((M_9.1 x0 9) - 1) (x3_8 / x2_5) M_9) else none else if ¬ ((x2_5 : Int32) = 0) then (f_X4_reckonTwo_158 a_14 ((M_9.1 x0 9) - 1) (x3_8 - x3_8 / x2_5 * x2_5) M_9) else none))))) else none else none else some ((), M)))
set_option maxHeartbeats 2000000 in
set_option maxRecDepth 20000 in
theorem t_X4_reckonTwo {l : Launch} {x0 : Nat} {x1 : Int32} {M MO : zM} {v : Unit} (h0 : z_tm SH 4 x0) (hf : f_X4_reckonTwo x0 x1 M = some (v, MO)) : zMet l yX4_reckonTwo cX4_reckonTwo 4 none 1 0 0 [.ref x0, .int x1] SH M (zDv SH MO) := by
  refine zMet.of (by decide +kernel) (Nat.le_of_ble_eq_true rfl) (Or.inl rfl) ?_
  show zA l yX4_reckonTwo cX4_reckonTwo 4 none 1 0 0 SH.length (zDv SH MO) 0 0 0 [(0, .ref x0), (1, .int x1)] [] SH M
  unfold f_X4_reckonTwo at hf
  refine z_aload_n dX4_reckonTwo_0 rfl rfl ?_
  refine zgI fl_X4_73 h0 (fun _ => rfl) dX4_reckonTwo_1 ?_
  refine z_iconst (v := 2) dX4_reckonTwo_4 (by decide) ?_
  refine z_icmp_lt (tgt := 17) dX4_reckonTwo_5 (by decide) (fun q_1 => ?_) (fun q_1 => ?_)
  · have hf := (if_pos q_1).symm.trans hf
    obtain ⟨rfl, rfl⟩ := z_end hf
    exact z_vret ⟨rfl, rfl, rfl⟩ rfl dX4_reckonTwo_17
  · have hf := (if_neg q_1).symm.trans hf
    refine z_aload_n dX4_reckonTwo_8 rfl rfl ?_
    refine zgI fl_X4_73 h0 (fun _ => rfl) dX4_reckonTwo_9 ?_
    refine z_bipush (v := 15) dX4_reckonTwo_12 (by decide) ?_
    refine z_icmp_le (tgt := 18) dX4_reckonTwo_14 (by decide) (fun q_2 => ?_) (fun q_2 => ?_)
    · have hf := (if_pos q_2).symm.trans hf
      refine z_aload_n dX4_reckonTwo_18 rfl rfl ?_
      obtain ⟨a_3, ra_3, hf⟩ := z_rd_some hf
      refine zgR fl_X4_30 h0 (fun _ => rfl) ra_3 dX4_reckonTwo_19 (fun ha_3 => ?_)
      refine z_aload_n dX4_reckonTwo_22 rfl rfl ?_
      refine zgI fl_X4_73 h0 (fun _ => rfl) dX4_reckonTwo_23 ?_
      refine z_iconst (v := 1) dX4_reckonTwo_26 (by decide) ?_
      refine z_isub dX4_reckonTwo_27 ?_
      obtain ⟨g_4, hf⟩ := z_ifs hf
      refine z_iald ha_3 g_4 rfl dX4_reckonTwo_28 ?_
      obtain ⟨x2_5, ex2_5, hf⟩ := zl_some hf
      refine z_istore_n' (lv' := [(2, .int x2_5), (0, .ref x0), (1, .int x1)]) rfl dX4_reckonTwo_29 (by decide) ex2_5 rfl ?_
      refine z_aload_n dX4_reckonTwo_30 rfl rfl ?_
      obtain ⟨a_6, ra_6, hf⟩ := z_rd_some hf
      refine zgR fl_X4_30 h0 (fun _ => rfl) ra_6 dX4_reckonTwo_31 (fun ha_6 => ?_)
      refine z_aload_n dX4_reckonTwo_34 rfl rfl ?_
      refine zgI fl_X4_73 h0 (fun _ => rfl) dX4_reckonTwo_35 ?_
      refine z_iconst (v := 2) dX4_reckonTwo_38 (by decide) ?_
      refine z_isub dX4_reckonTwo_39 ?_
      obtain ⟨g_7, hf⟩ := z_ifs hf
      refine z_iald ha_6 g_7 rfl dX4_reckonTwo_40 ?_
      obtain ⟨x3_8, ex3_8, hf⟩ := zl_some hf
      refine z_istore_n' (lv' := [(3, .int x3_8), (2, .int x2_5), (0, .ref x0), (1, .int x1)]) rfl dX4_reckonTwo_41 (by decide) ex3_8 rfl ?_
      refine z_aload_n dX4_reckonTwo_42 rfl rfl ?_
      refine z_dup dX4_reckonTwo_43 rfl ?_
      refine zgI fl_X4_73 h0 (fun _ => rfl) dX4_reckonTwo_44 ?_
      refine z_iconst (v := 1) dX4_reckonTwo_47 (by decide) ?_
      refine z_isub dX4_reckonTwo_48 ?_
      obtain ⟨M_9, eM_9, hf⟩ := zl_some hf
      refine zpI fl_X4_73 h0 rfl (Or.inl rfl) eM_9 dX4_reckonTwo_49 ?_
      refine z_iload_n dX4_reckonTwo_52 rfl rfl ?_
      refine z_bipush (v := 43) dX4_reckonTwo_53 (by decide) ?_
      refine z_icmp_ne (tgt := 75) dX4_reckonTwo_55 (by decide) (fun q_10 => ?_) (fun q_10 => ?_)
      · have hf := (if_neg q_10).symm.trans hf
        refine z_iload_n dX4_reckonTwo_75 rfl rfl ?_
        refine z_bipush (v := 45) dX4_reckonTwo_76 (by decide) ?_
        refine z_icmp_ne (tgt := 98) dX4_reckonTwo_78 (by decide) (fun q_11 => ?_) (fun q_11 => ?_)
        · have hf := (if_neg q_11).symm.trans hf
          refine z_iload_n dX4_reckonTwo_98 rfl rfl ?_
          refine z_bipush (v := 42) dX4_reckonTwo_99 (by decide) ?_
          refine z_icmp_ne (tgt := 121) dX4_reckonTwo_101 (by decide) (fun q_12 => ?_) (fun q_12 => ?_)
          · have hf := (if_neg q_12).symm.trans hf
            refine z_iload_n dX4_reckonTwo_121 rfl rfl ?_
            refine z_if_ne (tgt := 133) dX4_reckonTwo_122 (by decide) (fun q_13 => ?_) (fun q_13 => ?_)
            · have hf := (if_neg q_13).symm.trans hf
              refine z_aload_n dX4_reckonTwo_133 rfl rfl ?_
              obtain ⟨a_14, ra_14, hf⟩ := z_rd_some hf
              refine zgR fl_X4_30 h0 (fun _ => rfl) ra_14 dX4_reckonTwo_134 (fun ha_14 => ?_)
              refine z_aload_n dX4_reckonTwo_137 rfl rfl ?_
              refine zgI fl_X4_73 h0 (fun _ => rfl) dX4_reckonTwo_138 ?_
              refine z_iconst (v := 1) dX4_reckonTwo_141 (by decide) ?_
              refine z_isub dX4_reckonTwo_142 ?_
              refine z_iload_n dX4_reckonTwo_143 rfl rfl ?_
              refine z_bipush (v := 47) dX4_reckonTwo_144 (by decide) ?_
              refine z_icmp_ne (tgt := 155) dX4_reckonTwo_146 (by decide) (fun q_15 => ?_) (fun q_15 => ?_)
              · have hf := (if_neg q_15).symm.trans hf
                refine z_iload_n dX4_reckonTwo_155 rfl rfl ?_
                refine z_iload_n dX4_reckonTwo_156 rfl rfl ?_
                obtain ⟨g_16, hf⟩ := z_ifs hf
                refine z_irem dX4_reckonTwo_157 g_16 ?_
                refine zA.pick [] [] rfl ?_
                exact t_X4_reckonTwo_158 ha_14 hf
              · have hf := (if_pos q_15).symm.trans hf
                refine z_iload_n dX4_reckonTwo_149 rfl rfl ?_
                refine z_iload_n dX4_reckonTwo_150 rfl rfl ?_
                obtain ⟨g_17, hf⟩ := z_ifs hf
                refine z_idiv dX4_reckonTwo_151 g_17 ?_
                refine z_goto (tgt := 158) dX4_reckonTwo_152 (by decide) ?_
                refine zA.pick [] [] rfl ?_
                exact t_X4_reckonTwo_158 ha_14 hf
            · have hf := (if_pos q_13).symm.trans hf
              refine z_aload_n dX4_reckonTwo_125 rfl rfl ?_
              refine z_iconst (v := 1) dX4_reckonTwo_126 (by decide) ?_
              obtain ⟨M_18, eM_18, hf⟩ := zl_some hf
              refine zpI fl_X4_61 h0 rfl (Or.inr ⟨rfl, (Or.inr rfl)⟩) eM_18 dX4_reckonTwo_127 ?_
              refine z_goto (tgt := 159) dX4_reckonTwo_130 (by decide) ?_
              obtain ⟨rfl, rfl⟩ := z_end hf
              exact z_vret ⟨rfl, rfl, rfl⟩ rfl dX4_reckonTwo_159
          · have hf := (if_pos q_12).symm.trans hf
            refine z_aload_n dX4_reckonTwo_104 rfl rfl ?_
            obtain ⟨a_19, ra_19, hf⟩ := z_rd_some hf
            refine zgR fl_X4_30 h0 (fun _ => rfl) ra_19 dX4_reckonTwo_105 (fun ha_19 => ?_)
            refine z_aload_n dX4_reckonTwo_108 rfl rfl ?_
            refine zgI fl_X4_73 h0 (fun _ => rfl) dX4_reckonTwo_109 ?_
            refine z_iconst (v := 1) dX4_reckonTwo_112 (by decide) ?_
            refine z_isub dX4_reckonTwo_113 ?_
            refine z_iload_n dX4_reckonTwo_114 rfl rfl ?_
            refine z_iload_n dX4_reckonTwo_115 rfl rfl ?_
            refine z_imul dX4_reckonTwo_116 ?_
            obtain ⟨g_20, hf⟩ := z_ifs hf
            obtain ⟨M_21, eM_21, hf⟩ := zl_some hf
            refine z_iast ha_19 g_20 eM_21 dX4_reckonTwo_117 ?_
            refine z_goto (tgt := 159) dX4_reckonTwo_118 (by decide) ?_
            obtain ⟨rfl, rfl⟩ := z_end hf
            exact z_vret ⟨rfl, rfl, rfl⟩ rfl dX4_reckonTwo_159
        · have hf := (if_pos q_11).symm.trans hf
          refine z_aload_n dX4_reckonTwo_81 rfl rfl ?_
          obtain ⟨a_22, ra_22, hf⟩ := z_rd_some hf
          refine zgR fl_X4_30 h0 (fun _ => rfl) ra_22 dX4_reckonTwo_82 (fun ha_22 => ?_)
          refine z_aload_n dX4_reckonTwo_85 rfl rfl ?_
          refine zgI fl_X4_73 h0 (fun _ => rfl) dX4_reckonTwo_86 ?_
          refine z_iconst (v := 1) dX4_reckonTwo_89 (by decide) ?_
          refine z_isub dX4_reckonTwo_90 ?_
          refine z_iload_n dX4_reckonTwo_91 rfl rfl ?_
          refine z_iload_n dX4_reckonTwo_92 rfl rfl ?_
          refine z_isub dX4_reckonTwo_93 ?_
          obtain ⟨g_23, hf⟩ := z_ifs hf
          obtain ⟨M_24, eM_24, hf⟩ := zl_some hf
          refine z_iast ha_22 g_23 eM_24 dX4_reckonTwo_94 ?_
          refine z_goto (tgt := 159) dX4_reckonTwo_95 (by decide) ?_
          obtain ⟨rfl, rfl⟩ := z_end hf
          exact z_vret ⟨rfl, rfl, rfl⟩ rfl dX4_reckonTwo_159
      · have hf := (if_pos q_10).symm.trans hf
        refine z_aload_n dX4_reckonTwo_58 rfl rfl ?_
        obtain ⟨a_25, ra_25, hf⟩ := z_rd_some hf
        refine zgR fl_X4_30 h0 (fun _ => rfl) ra_25 dX4_reckonTwo_59 (fun ha_25 => ?_)
        refine z_aload_n dX4_reckonTwo_62 rfl rfl ?_
        refine zgI fl_X4_73 h0 (fun _ => rfl) dX4_reckonTwo_63 ?_
        refine z_iconst (v := 1) dX4_reckonTwo_66 (by decide) ?_
        refine z_isub dX4_reckonTwo_67 ?_
        refine z_iload_n dX4_reckonTwo_68 rfl rfl ?_
        refine z_iload_n dX4_reckonTwo_69 rfl rfl ?_
        refine z_iadd dX4_reckonTwo_70 ?_
        obtain ⟨g_26, hf⟩ := z_ifs hf
        obtain ⟨M_27, eM_27, hf⟩ := zl_some hf
        refine z_iast ha_25 g_26 eM_27 dX4_reckonTwo_71 ?_
        refine z_goto (tgt := 159) dX4_reckonTwo_72 (by decide) ?_
        obtain ⟨rfl, rfl⟩ := z_end hf
        exact z_vret ⟨rfl, rfl, rfl⟩ rfl dX4_reckonTwo_159
    · have hf := (if_neg q_2).symm.trans hf
      obtain ⟨rfl, rfl⟩ := z_end hf
      exact z_vret ⟨rfl, rfl, rfl⟩ rfl dX4_reckonTwo_17
noncomputable def f_X4_letter (x0 : Nat) (x1 : Int32) (M : zM) : Option (Int32 × zM) :=
  (if (M.1 x0 13) < 0 then some (0, M) else (if 24 ≤ (M.1 x0 13) then some (0, M) else (if (M.1 x0 14) < 0 then some (0, M) else (if (M.1 x0 14) < 24 then (if x1 = 97 then some ((M.1 x0 15), M) else if x1 = 102 then some (((M.1 x0 14) / 4), M) else if x1 = 103 then z_rd (M.2.1 x0 12) fun a_8 => z_rd (M.2.1 a_8 2) fun a_9 => if z_ix (M.1 x0 14) (z_ln SH a_9) = true then some ((M.1 a_9 ((M.1 x0 14) : Int32).toNatClampNeg), M) else none else if x1 = 104 then z_rd (M.2.1 x0 12) fun a_12 => some (((M.1 a_12 8) - (M.1 a_12 8) / 24 * 24), M) else if x1 = 112 then some ((M.1 x0 14), M) else if x1 = 114 then some ((M.1 x0 13), M) else if x1 = 115 then z_rd (M.2.1 x0 12) fun a_16 => z_rd (M.2.1 a_16 0) fun a_17 => if z_ix (M.1 x0 13) (z_ln SH a_17) = true then some ((M.1 a_17 ((M.1 x0 13) : Int32).toNatClampNeg), M) else none else if x1 = 119 then z_rd (M.2.1 x0 12) fun a_20 => z_rd (M.2.1 a_20 4) fun a_21 => if z_ix (M.1 x0 14) (z_ln SH a_21) = true then some ((M.1 a_21 ((M.1 x0 14) : Int32).toNatClampNeg), M) else none else some (0, M)) else some (0, M)))))
set_option maxHeartbeats 2000000 in
set_option maxRecDepth 20000 in
theorem t_X4_letter {l : Launch} {x0 : Nat} {x1 : Int32} {M MO : zM} {v : Int32} (h0 : z_tm SH 4 x0) (hf : f_X4_letter x0 x1 M = some (v, MO)) : zMet l yX4_letter cX4_letter 2 (some .int) 1 0 0 [.ref x0, .int x1] SH M (zDi SH v MO) := by
  refine zMet.of (by decide +kernel) (Nat.le_of_ble_eq_true rfl) (Or.inr (Or.inl rfl)) ?_
  show zA l yX4_letter cX4_letter 2 (some .int) 1 0 0 SH.length (zDi SH v MO) 0 0 0 [(0, .ref x0), (1, .int x1)] [] SH M
  unfold f_X4_letter at hf
  refine z_aload_n dX4_letter_0 rfl rfl ?_
  refine zgI fl_X4_44 h0 (fun _ => rfl) dX4_letter_1 ?_
  refine z_if_lt (tgt := 32) dX4_letter_4 (by decide) (fun q_1 => ?_) (fun q_1 => ?_)
  · have hf := (if_pos q_1).symm.trans hf
    refine z_iconst (v := 0) dX4_letter_32 (by decide) ?_
    obtain ⟨rfl, rfl⟩ := z_end hf
    exact z_iret ⟨rfl, rfl, rfl⟩ (Or.inl rfl) dX4_letter_33
  · have hf := (if_neg q_1).symm.trans hf
    refine z_aload_n dX4_letter_7 rfl rfl ?_
    refine zgI fl_X4_44 h0 (fun _ => rfl) dX4_letter_8 ?_
    refine z_bipush (v := 24) dX4_letter_11 (by decide) ?_
    refine z_icmp_ge (tgt := 32) dX4_letter_13 (by decide) (fun q_2 => ?_) (fun q_2 => ?_)
    · have hf := (if_pos q_2).symm.trans hf
      refine z_iconst (v := 0) dX4_letter_32 (by decide) ?_
      obtain ⟨rfl, rfl⟩ := z_end hf
      exact z_iret ⟨rfl, rfl, rfl⟩ (Or.inl rfl) dX4_letter_33
    · have hf := (if_neg q_2).symm.trans hf
      refine z_aload_n dX4_letter_16 rfl rfl ?_
      refine zgI fl_X4_47 h0 (fun _ => rfl) dX4_letter_17 ?_
      refine z_if_lt (tgt := 32) dX4_letter_20 (by decide) (fun q_3 => ?_) (fun q_3 => ?_)
      · have hf := (if_pos q_3).symm.trans hf
        refine z_iconst (v := 0) dX4_letter_32 (by decide) ?_
        obtain ⟨rfl, rfl⟩ := z_end hf
        exact z_iret ⟨rfl, rfl, rfl⟩ (Or.inl rfl) dX4_letter_33
      · have hf := (if_neg q_3).symm.trans hf
        refine z_aload_n dX4_letter_23 rfl rfl ?_
        refine zgI fl_X4_47 h0 (fun _ => rfl) dX4_letter_24 ?_
        refine z_bipush (v := 24) dX4_letter_27 (by decide) ?_
        refine z_icmp_lt (tgt := 34) dX4_letter_29 (by decide) (fun q_4 => ?_) (fun q_4 => ?_)
        · have hf := (if_pos q_4).symm.trans hf
          refine z_iload_n dX4_letter_34 rfl rfl ?_
          by_cases q_5 : x1 = 97
          · have hf := (if_pos q_5).symm.trans hf
            refine z_tabIn (tgt := 196) (off := 161) dX4_letter_35 (by rw [q_5]; decide) (by rw [q_5]; decide) (by rw [q_5]; rfl) (by decide) ?_
            refine z_aload_n dX4_letter_196 rfl rfl ?_
            refine zgI fl_X4_50 h0 (fun _ => rfl) dX4_letter_197 ?_
            obtain ⟨rfl, rfl⟩ := z_end hf
            exact z_iret ⟨rfl, rfl, rfl⟩ (Or.inl rfl) dX4_letter_200
          have hf := (if_neg q_5).symm.trans hf
          by_cases q_6 : x1 = 102
          · have hf := (if_pos q_6).symm.trans hf
            refine z_tabIn (tgt := 163) (off := 128) dX4_letter_35 (by rw [q_6]; decide) (by rw [q_6]; decide) (by rw [q_6]; rfl) (by decide) ?_
            refine z_aload_n dX4_letter_163 rfl rfl ?_
            refine zgI fl_X4_47 h0 (fun _ => rfl) dX4_letter_164 ?_
            refine z_iconst (v := 4) dX4_letter_167 (by decide) ?_
            refine z_idiv dX4_letter_168 (by decide) ?_
            obtain ⟨rfl, rfl⟩ := z_end hf
            exact z_iret ⟨rfl, rfl, rfl⟩ (Or.inl rfl) dX4_letter_169
          have hf := (if_neg q_6).symm.trans hf
          by_cases q_7 : x1 = 103
          · have hf := (if_pos q_7).symm.trans hf
            refine z_tabIn (tgt := 183) (off := 148) dX4_letter_35 (by rw [q_7]; decide) (by rw [q_7]; decide) (by rw [q_7]; rfl) (by decide) ?_
            refine z_aload_n dX4_letter_183 rfl rfl ?_
            obtain ⟨a_8, ra_8, hf⟩ := z_rd_some hf
            refine zgR fl_X4_33 h0 (fun _ => rfl) ra_8 dX4_letter_184 (fun ha_8 => ?_)
            obtain ⟨a_9, ra_9, hf⟩ := z_rd_some hf
            refine zgR fl_X4_98 ha_8 (fun _ => rfl) ra_9 dX4_letter_187 (fun ha_9 => ?_)
            refine z_aload_n dX4_letter_190 rfl rfl ?_
            refine zgI fl_X4_47 h0 (fun _ => rfl) dX4_letter_191 ?_
            obtain ⟨g_10, hf⟩ := z_ifs hf
            refine z_iald ha_9 g_10 rfl dX4_letter_194 ?_
            obtain ⟨rfl, rfl⟩ := z_end hf
            exact z_iret ⟨rfl, rfl, rfl⟩ (Or.inl rfl) dX4_letter_195
          have hf := (if_neg q_7).symm.trans hf
          by_cases q_11 : x1 = 104
          · have hf := (if_pos q_11).symm.trans hf
            refine z_tabIn (tgt := 201) (off := 166) dX4_letter_35 (by rw [q_11]; decide) (by rw [q_11]; decide) (by rw [q_11]; rfl) (by decide) ?_
            refine z_aload_n dX4_letter_201 rfl rfl ?_
            obtain ⟨a_12, ra_12, hf⟩ := z_rd_some hf
            refine zgR fl_X4_33 h0 (fun _ => rfl) ra_12 dX4_letter_202 (fun ha_12 => ?_)
            refine zgI fl_X4_101 ha_12 (fun _ => rfl) dX4_letter_205 ?_
            refine z_bipush (v := 24) dX4_letter_208 (by decide) ?_
            refine z_irem dX4_letter_210 (by decide) ?_
            obtain ⟨rfl, rfl⟩ := z_end hf
            exact z_iret ⟨rfl, rfl, rfl⟩ (Or.inl rfl) dX4_letter_211
          have hf := (if_neg q_11).symm.trans hf
          by_cases q_13 : x1 = 112
          · have hf := (if_pos q_13).symm.trans hf
            refine z_tabIn (tgt := 158) (off := 123) dX4_letter_35 (by rw [q_13]; decide) (by rw [q_13]; decide) (by rw [q_13]; rfl) (by decide) ?_
            refine z_aload_n dX4_letter_158 rfl rfl ?_
            refine zgI fl_X4_47 h0 (fun _ => rfl) dX4_letter_159 ?_
            obtain ⟨rfl, rfl⟩ := z_end hf
            exact z_iret ⟨rfl, rfl, rfl⟩ (Or.inl rfl) dX4_letter_162
          have hf := (if_neg q_13).symm.trans hf
          by_cases q_14 : x1 = 114
          · have hf := (if_pos q_14).symm.trans hf
            refine z_tabIn (tgt := 140) (off := 105) dX4_letter_35 (by rw [q_14]; decide) (by rw [q_14]; decide) (by rw [q_14]; rfl) (by decide) ?_
            refine z_aload_n dX4_letter_140 rfl rfl ?_
            refine zgI fl_X4_44 h0 (fun _ => rfl) dX4_letter_141 ?_
            obtain ⟨rfl, rfl⟩ := z_end hf
            exact z_iret ⟨rfl, rfl, rfl⟩ (Or.inl rfl) dX4_letter_144
          have hf := (if_neg q_14).symm.trans hf
          by_cases q_15 : x1 = 115
          · have hf := (if_pos q_15).symm.trans hf
            refine z_tabIn (tgt := 145) (off := 110) dX4_letter_35 (by rw [q_15]; decide) (by rw [q_15]; decide) (by rw [q_15]; rfl) (by decide) ?_
            refine z_aload_n dX4_letter_145 rfl rfl ?_
            obtain ⟨a_16, ra_16, hf⟩ := z_rd_some hf
            refine zgR fl_X4_33 h0 (fun _ => rfl) ra_16 dX4_letter_146 (fun ha_16 => ?_)
            obtain ⟨a_17, ra_17, hf⟩ := z_rd_some hf
            refine zgR fl_X4_90 ha_16 (fun _ => rfl) ra_17 dX4_letter_149 (fun ha_17 => ?_)
            refine z_aload_n dX4_letter_152 rfl rfl ?_
            refine zgI fl_X4_44 h0 (fun _ => rfl) dX4_letter_153 ?_
            obtain ⟨g_18, hf⟩ := z_ifs hf
            refine z_iald ha_17 g_18 rfl dX4_letter_156 ?_
            obtain ⟨rfl, rfl⟩ := z_end hf
            exact z_iret ⟨rfl, rfl, rfl⟩ (Or.inl rfl) dX4_letter_157
          have hf := (if_neg q_15).symm.trans hf
          by_cases q_19 : x1 = 119
          · have hf := (if_pos q_19).symm.trans hf
            refine z_tabIn (tgt := 170) (off := 135) dX4_letter_35 (by rw [q_19]; decide) (by rw [q_19]; decide) (by rw [q_19]; rfl) (by decide) ?_
            refine z_aload_n dX4_letter_170 rfl rfl ?_
            obtain ⟨a_20, ra_20, hf⟩ := z_rd_some hf
            refine zgR fl_X4_33 h0 (fun _ => rfl) ra_20 dX4_letter_171 (fun ha_20 => ?_)
            obtain ⟨a_21, ra_21, hf⟩ := z_rd_some hf
            refine zgR fl_X4_95 ha_20 (fun _ => rfl) ra_21 dX4_letter_174 (fun ha_21 => ?_)
            refine z_aload_n dX4_letter_177 rfl rfl ?_
            refine zgI fl_X4_47 h0 (fun _ => rfl) dX4_letter_178 ?_
            obtain ⟨g_22, hf⟩ := z_ifs hf
            refine z_iald ha_21 g_22 rfl dX4_letter_181 ?_
            obtain ⟨rfl, rfl⟩ := z_end hf
            exact z_iret ⟨rfl, rfl, rfl⟩ (Or.inl rfl) dX4_letter_182
          have hf := (if_neg q_19).symm.trans hf
          refine z_tabD (tgt := 212) dX4_letter_35 [97, 102, 103, 104, 112, 114, 115, 119] (List.forall_mem_cons.mpr ⟨lv_neT q_5 (by decide), (List.forall_mem_cons.mpr ⟨lv_neT q_6 (by decide), (List.forall_mem_cons.mpr ⟨lv_neT q_7 (by decide), (List.forall_mem_cons.mpr ⟨lv_neT q_11 (by decide), (List.forall_mem_cons.mpr ⟨lv_neT q_13 (by decide), (List.forall_mem_cons.mpr ⟨lv_neT q_14 (by decide), (List.forall_mem_cons.mpr ⟨lv_neT q_15 (by decide), (List.forall_mem_cons.mpr ⟨lv_neT q_19 (by decide), (fun _ h => absurd h List.not_mem_nil)⟩)⟩)⟩)⟩)⟩)⟩)⟩)⟩) (by decide) (by decide) ?_
          refine z_iconst (v := 0) dX4_letter_212 (by decide) ?_
          obtain ⟨rfl, rfl⟩ := z_end hf
          exact z_iret ⟨rfl, rfl, rfl⟩ (Or.inl rfl) dX4_letter_213
        · have hf := (if_neg q_4).symm.trans hf
          refine z_iconst (v := 0) dX4_letter_32 (by decide) ?_
          obtain ⟨rfl, rfl⟩ := z_end hf
          exact z_iret ⟨rfl, rfl, rfl⟩ (Or.inl rfl) dX4_letter_33
noncomputable def f_X4_push (x0 : Nat) (x1 : Int32) (M : zM) : Option (Unit × zM) :=
  (if (M.1 x0 9) < 0 then some ((), M) else (if 15 ≤ (M.1 x0 9) then some ((), M) else z_rd (M.2.1 x0 8) fun a_3 => if z_ix (M.1 x0 9) (z_ln SH a_3) = true then zl (zu M.1 a_3 ((M.1 x0 9) : Int32).toNatClampNeg x1, M.2) fun M_5 => zl (zu M_5.1 x0 9 ((M_5.1 x0 9) + 1), M_5.2) fun M_6 => some ((), M_6) else none))
set_option maxHeartbeats 2000000 in
set_option maxRecDepth 20000 in
theorem t_X4_push {l : Launch} {x0 : Nat} {x1 : Int32} {M MO : zM} {v : Unit} (h0 : z_tm SH 4 x0) (hf : f_X4_push x0 x1 M = some (v, MO)) : zMet l yX4_push cX4_push 2 none 1 0 0 [.ref x0, .int x1] SH M (zDv SH MO) := by
  refine zMet.of (by decide +kernel) (Nat.le_of_ble_eq_true rfl) (Or.inl rfl) ?_
  show zA l yX4_push cX4_push 2 none 1 0 0 SH.length (zDv SH MO) 0 0 0 [(0, .ref x0), (1, .int x1)] [] SH M
  unfold f_X4_push at hf
  refine z_aload_n dX4_push_0 rfl rfl ?_
  refine zgI fl_X4_73 h0 (fun _ => rfl) dX4_push_1 ?_
  refine z_if_lt (tgt := 36) dX4_push_4 (by decide) (fun q_1 => ?_) (fun q_1 => ?_)
  · have hf := (if_pos q_1).symm.trans hf
    obtain ⟨rfl, rfl⟩ := z_end hf
    exact z_vret ⟨rfl, rfl, rfl⟩ rfl dX4_push_36
  · have hf := (if_neg q_1).symm.trans hf
    refine z_aload_n dX4_push_7 rfl rfl ?_
    refine zgI fl_X4_73 h0 (fun _ => rfl) dX4_push_8 ?_
    refine z_bipush (v := 15) dX4_push_11 (by decide) ?_
    refine z_icmp_ge (tgt := 36) dX4_push_13 (by decide) (fun q_2 => ?_) (fun q_2 => ?_)
    · have hf := (if_pos q_2).symm.trans hf
      obtain ⟨rfl, rfl⟩ := z_end hf
      exact z_vret ⟨rfl, rfl, rfl⟩ rfl dX4_push_36
    · have hf := (if_neg q_2).symm.trans hf
      refine z_aload_n dX4_push_16 rfl rfl ?_
      obtain ⟨a_3, ra_3, hf⟩ := z_rd_some hf
      refine zgR fl_X4_30 h0 (fun _ => rfl) ra_3 dX4_push_17 (fun ha_3 => ?_)
      refine z_aload_n dX4_push_20 rfl rfl ?_
      refine zgI fl_X4_73 h0 (fun _ => rfl) dX4_push_21 ?_
      refine z_iload_n dX4_push_24 rfl rfl ?_
      obtain ⟨g_4, hf⟩ := z_ifs hf
      obtain ⟨M_5, eM_5, hf⟩ := zl_some hf
      refine z_iast ha_3 g_4 eM_5 dX4_push_25 ?_
      refine z_aload_n dX4_push_26 rfl rfl ?_
      refine z_dup dX4_push_27 rfl ?_
      refine zgI fl_X4_73 h0 (fun _ => rfl) dX4_push_28 ?_
      refine z_iconst (v := 1) dX4_push_31 (by decide) ?_
      refine z_iadd dX4_push_32 ?_
      obtain ⟨M_6, eM_6, hf⟩ := zl_some hf
      refine zpI fl_X4_73 h0 rfl (Or.inl rfl) eM_6 dX4_push_33 ?_
      obtain ⟨rfl, rfl⟩ := z_end hf
      exact z_vret ⟨rfl, rfl, rfl⟩ rfl dX4_push_36
noncomputable def f_X4_run_273 (x0 : Nat) (x2 : Int32) (k20 : Int32 → Int32 → zM → Option (Unit × zM)) (x4 : Int32) (x6 : Int32) (M : zM) : Option (Unit × zM) :=
  zl (x4 + 1) fun x4_1 => (k20 x6 x4_1 M)
set_option maxHeartbeats 2000000 in
set_option maxRecDepth 20000 in
theorem t_X4_run_273 {l : Launch} {x0 : Nat} {x2 : Int32} {k20 : Int32 → Int32 → zM → Option (Unit × zM)} {x4 : Int32} {x6 : Int32} {M MO : zM} {v : Unit} (h0 : z_tm SH 4 x0) (hk20 : ∀ (x3 : Int32) (x4 : Int32) (M : zM), k20 x3 x4 M = some (v, MO) → zA l yX4_run cX4_run 7 none 2 0 0 SH.length (zDv SH MO) 0 0 20 [(0, .ref x0), (2, .int x2), (3, .int x3), (4, .int x4)] [] SH M) (hf : f_X4_run_273 x0 x2 k20 x4 x6 M = some (v, MO)) : zA l yX4_run cX4_run 7 none 2 0 0 SH.length (zDv SH MO) 0 0 273 [(0, .ref x0), (2, .int x2), (4, .int x4), (6, .int x6)] [] SH M := by
  unfold f_X4_run_273 at hf
  refine z_iload dX4_run_273 rfl ?_
  refine z_istore_n' (lv' := [(3, .int x6), (0, .ref x0), (2, .int x2), (4, .int x4), (6, .int x6)]) rfl dX4_run_275 (by decide) rfl rfl ?_
  obtain ⟨x4_1, ex4_1, hf⟩ := zl_some hf
  refine z_iinc' (lv' := [(4, .int x4_1), (3, .int x6), (0, .ref x0), (2, .int x2), (6, .int x6)]) dX4_run_276 rfl (by decide) ex4_1 (by decide) rfl ?_
  refine z_goto (tgt := 20) dX4_run_279 (by decide) ?_
  refine zA.pick [(0, .ref x0), (2, .int x2), (3, .int x6), (4, .int x4_1)] [2, 3, 1, 0] rfl ?_
  exact hk20 x6 x4_1 M hf
noncomputable def f_X4_run_182 (x0 : Nat) (x2 : Int32) (k20 : Int32 → Int32 → zM → Option (Unit × zM)) (x4 : Int32) (s0 : Int32) (M : zM) : Option (Unit × zM) :=
  (f_X4_run_273 x0 x2 k20 x4 s0 M)
set_option maxHeartbeats 2000000 in
set_option maxRecDepth 20000 in
theorem t_X4_run_182 {l : Launch} {x0 : Nat} {x2 : Int32} {k20 : Int32 → Int32 → zM → Option (Unit × zM)} {x4 : Int32} {s0 : Int32} {M MO : zM} {v : Unit} (h0 : z_tm SH 4 x0) (hk20 : ∀ (x3 : Int32) (x4 : Int32) (M : zM), k20 x3 x4 M = some (v, MO) → zA l yX4_run cX4_run 7 none 2 0 0 SH.length (zDv SH MO) 0 0 20 [(0, .ref x0), (2, .int x2), (3, .int x3), (4, .int x4)] [] SH M) (hf : f_X4_run_182 x0 x2 k20 x4 s0 M = some (v, MO)) : zA l yX4_run cX4_run 7 none 2 0 0 SH.length (zDv SH MO) 0 0 182 [(0, .ref x0), (2, .int x2), (4, .int x4)] [.int s0] SH M := by
  unfold f_X4_run_182 at hf
  refine z_istore' (lv' := [(6, .int s0), (0, .ref x0), (2, .int x2), (4, .int x4)]) dX4_run_182 (by decide) rfl rfl ?_
  refine z_goto (tgt := 273) dX4_run_184 (by decide) ?_
  refine zA.pick [(0, .ref x0), (2, .int x2), (4, .int x4), (6, .int s0)] [1, 2, 3, 0] rfl ?_
  exact t_X4_run_273 h0 hk20 hf
noncomputable def f_X4_run_229 (x0 : Nat) (x2 : Int32) (k20 : Int32 → Int32 → zM → Option (Unit × zM)) (x4 : Int32) (x5 : Int32) (x6 : Int32) (M : zM) : Option (Unit × zM) :=
  z_call (f_X4_compareTwo x0 x5 M) fun v_1 M_2 => (f_X4_run_273 x0 x2 k20 x4 x6 M_2)
set_option maxHeartbeats 2000000 in
set_option maxRecDepth 20000 in
theorem t_X4_run_229 {l : Launch} {x0 : Nat} {x2 : Int32} {k20 : Int32 → Int32 → zM → Option (Unit × zM)} {x4 : Int32} {x5 : Int32} {x6 : Int32} {M MO : zM} {v : Unit} (h0 : z_tm SH 4 x0) (hk20 : ∀ (x3 : Int32) (x4 : Int32) (M : zM), k20 x3 x4 M = some (v, MO) → zA l yX4_run cX4_run 7 none 2 0 0 SH.length (zDv SH MO) 0 0 20 [(0, .ref x0), (2, .int x2), (3, .int x3), (4, .int x4)] [] SH M) (hf : f_X4_run_229 x0 x2 k20 x4 x5 x6 M = some (v, MO)) : zA l yX4_run cX4_run 7 none 2 0 0 SH.length (zDv SH MO) 0 0 229 [(0, .ref x0), (2, .int x2), (4, .int x4), (5, .int x5), (6, .int x6)] [] SH M := by
  unfold f_X4_run_229 at hf
  refine z_aload_n dX4_run_229 rfl rfl ?_
  refine z_iload dX4_run_230 rfl ?_
  obtain ⟨v_1, M_2, c_3, hf⟩ := z_call_some hf
  refine z_cVv (t_X4_compareTwo h0 c_3) kw_X4_compareTwo lk_X4_76 h0 rfl (by decide) rfl (Nat.le_of_ble_eq_true rfl) ⟨Nat.le_refl 0, Nat.le_refl 0⟩ dX4_run_232 ?_
  refine z_goto (tgt := 273) dX4_run_235 (by decide) ?_
  refine zA.pick [(0, .ref x0), (2, .int x2), (4, .int x4), (6, .int x6)] [0, 1, 2, 4] rfl ?_
  exact t_X4_run_273 h0 hk20 hf
noncomputable def f_X4_run_238 (x0 : Nat) (x2 : Int32) (k20 : Int32 → Int32 → zM → Option (Unit × zM)) (x4 : Int32) (x5 : Int32) (x6 : Int32) (M : zM) : Option (Unit × zM) :=
  z_call (f_X4_reckonTwo x0 x5 M) fun v_1 M_2 => (f_X4_run_273 x0 x2 k20 x4 x6 M_2)
set_option maxHeartbeats 2000000 in
set_option maxRecDepth 20000 in
theorem t_X4_run_238 {l : Launch} {x0 : Nat} {x2 : Int32} {k20 : Int32 → Int32 → zM → Option (Unit × zM)} {x4 : Int32} {x5 : Int32} {x6 : Int32} {M MO : zM} {v : Unit} (h0 : z_tm SH 4 x0) (hk20 : ∀ (x3 : Int32) (x4 : Int32) (M : zM), k20 x3 x4 M = some (v, MO) → zA l yX4_run cX4_run 7 none 2 0 0 SH.length (zDv SH MO) 0 0 20 [(0, .ref x0), (2, .int x2), (3, .int x3), (4, .int x4)] [] SH M) (hf : f_X4_run_238 x0 x2 k20 x4 x5 x6 M = some (v, MO)) : zA l yX4_run cX4_run 7 none 2 0 0 SH.length (zDv SH MO) 0 0 238 [(0, .ref x0), (2, .int x2), (4, .int x4), (5, .int x5), (6, .int x6)] [] SH M := by
  unfold f_X4_run_238 at hf
  refine z_aload_n dX4_run_238 rfl rfl ?_
  refine z_iload dX4_run_239 rfl ?_
  obtain ⟨v_1, M_2, c_3, hf⟩ := z_call_some hf
  refine z_cVv (t_X4_reckonTwo h0 c_3) kw_X4_reckonTwo lk_X4_80 h0 rfl (by decide) rfl (Nat.le_of_ble_eq_true rfl) ⟨Nat.le_refl 0, Nat.le_refl 0⟩ dX4_run_241 ?_
  refine z_goto (tgt := 273) dX4_run_244 (by decide) ?_
  refine zA.pick [(0, .ref x0), (2, .int x2), (4, .int x4), (6, .int x6)] [0, 1, 2, 4] rfl ?_
  exact t_X4_run_273 h0 hk20 hf
noncomputable def f_X4_run_205 (x0 : Nat) (x2 : Int32) (k20 : Int32 → Int32 → zM → Option (Unit × zM)) (x4 : Int32) (s0 : Int32) (M : zM) : Option (Unit × zM) :=
  (f_X4_run_273 x0 x2 k20 x4 s0 M)
set_option maxHeartbeats 2000000 in
set_option maxRecDepth 20000 in
theorem t_X4_run_205 {l : Launch} {x0 : Nat} {x2 : Int32} {k20 : Int32 → Int32 → zM → Option (Unit × zM)} {x4 : Int32} {s0 : Int32} {M MO : zM} {v : Unit} (h0 : z_tm SH 4 x0) (hk20 : ∀ (x3 : Int32) (x4 : Int32) (M : zM), k20 x3 x4 M = some (v, MO) → zA l yX4_run cX4_run 7 none 2 0 0 SH.length (zDv SH MO) 0 0 20 [(0, .ref x0), (2, .int x2), (3, .int x3), (4, .int x4)] [] SH M) (hf : f_X4_run_205 x0 x2 k20 x4 s0 M = some (v, MO)) : zA l yX4_run cX4_run 7 none 2 0 0 SH.length (zDv SH MO) 0 0 205 [(0, .ref x0), (2, .int x2), (4, .int x4)] [.int s0] SH M := by
  unfold f_X4_run_205 at hf
  refine z_istore' (lv' := [(6, .int s0), (0, .ref x0), (2, .int x2), (4, .int x4)]) dX4_run_205 (by decide) rfl rfl ?_
  refine z_goto (tgt := 273) dX4_run_207 (by decide) ?_
  refine zA.pick [(0, .ref x0), (2, .int x2), (4, .int x4), (6, .int s0)] [1, 2, 3, 0] rfl ?_
  exact t_X4_run_273 h0 hk20 hf
noncomputable def f_X4_run_223 (x0 : Nat) (x2 : Int32) (k20 : Int32 → Int32 → zM → Option (Unit × zM)) (x4 : Int32) (x6 : Int32) (s0 : Nat) (s1 : Int32) (M : zM) : Option (Unit × zM) :=
  if ((s1 : Int32) = 0 ∨ (s1 : Int32) = 1) then zl (zu M.1 s0 10 s1, M.2) fun M_2 => (f_X4_run_273 x0 x2 k20 x4 x6 M_2) else none
set_option maxHeartbeats 2000000 in
set_option maxRecDepth 20000 in
theorem t_X4_run_223 {l : Launch} {x0 : Nat} {x2 : Int32} {k20 : Int32 → Int32 → zM → Option (Unit × zM)} {x4 : Int32} {x6 : Int32} {s0 : Nat} {s1 : Int32} {M MO : zM} {v : Unit} (h0 : z_tm SH 4 x0) (hk20 : ∀ (x3 : Int32) (x4 : Int32) (M : zM), k20 x3 x4 M = some (v, MO) → zA l yX4_run cX4_run 7 none 2 0 0 SH.length (zDv SH MO) 0 0 20 [(0, .ref x0), (2, .int x2), (3, .int x3), (4, .int x4)] [] SH M) (hs0 : z_tm SH 4 s0) (hf : f_X4_run_223 x0 x2 k20 x4 x6 s0 s1 M = some (v, MO)) : zA l yX4_run cX4_run 7 none 2 0 0 SH.length (zDv SH MO) 0 0 223 [(0, .ref x0), (2, .int x2), (4, .int x4), (6, .int x6)] [.int s1, .ref s0] SH M := by
  unfold f_X4_run_223 at hf
  obtain ⟨g_1, hf⟩ := z_ifs hf
  obtain ⟨M_2, eM_2, hf⟩ := zl_some hf
  refine zpI fl_X4_57 hs0 rfl (Or.inr ⟨rfl, g_1⟩) eM_2 dX4_run_223 ?_
  refine z_goto (tgt := 273) dX4_run_226 (by decide) ?_
  exact t_X4_run_273 h0 hk20 hf
noncomputable def f_X4_run_270 (x0 : Nat) (x2 : Int32) (k20 : Int32 → Int32 → zM → Option (Unit × zM)) (x4 : Int32) (x6 : Int32) (s0 : Nat) (s1 : Int32) (M : zM) : Option (Unit × zM) :=
  z_call (f_X4_push s0 s1 M) fun v_1 M_2 => (f_X4_run_273 x0 x2 k20 x4 x6 M_2)
set_option maxHeartbeats 2000000 in
set_option maxRecDepth 20000 in
theorem t_X4_run_270 {l : Launch} {x0 : Nat} {x2 : Int32} {k20 : Int32 → Int32 → zM → Option (Unit × zM)} {x4 : Int32} {x6 : Int32} {s0 : Nat} {s1 : Int32} {M MO : zM} {v : Unit} (h0 : z_tm SH 4 x0) (hk20 : ∀ (x3 : Int32) (x4 : Int32) (M : zM), k20 x3 x4 M = some (v, MO) → zA l yX4_run cX4_run 7 none 2 0 0 SH.length (zDv SH MO) 0 0 20 [(0, .ref x0), (2, .int x2), (3, .int x3), (4, .int x4)] [] SH M) (hs0 : z_tm SH 4 s0) (hf : f_X4_run_270 x0 x2 k20 x4 x6 s0 s1 M = some (v, MO)) : zA l yX4_run cX4_run 7 none 2 0 0 SH.length (zDv SH MO) 0 0 270 [(0, .ref x0), (2, .int x2), (4, .int x4), (6, .int x6)] [.int s1, .ref s0] SH M := by
  unfold f_X4_run_270 at hf
  obtain ⟨v_1, M_2, c_3, hf⟩ := z_call_some hf
  refine z_cVv (t_X4_push hs0 c_3) kw_X4_push lk_X4_87 hs0 rfl (by decide) rfl (Nat.le_of_ble_eq_true rfl) ⟨Nat.le_refl 0, Nat.le_refl 0⟩ dX4_run_270 ?_
  exact t_X4_run_273 h0 hk20 hf
noncomputable def f_X4_run_20 (x0 : Nat) (x2 : Int32) : Nat → Int32 → Int32 → zM → Option (Unit × zM)
  | 0, _, _, _ => none
  | n + 1, x3, x4, M =>
    (if 240 ≤ x4 then some ((), M) else (if x3 < 0 then some ((), M) else (if x2 ≤ x3 then some ((), M) else (if (M.1 x0 6) ≤ x3 then some ((), M) else (if (M.1 x0 11) = 0 then z_rd (M.2.1 x0 0) fun a_6 => if z_ix x3 (z_ln SH a_6) = true then zl ((M.1 a_6 (x3 : Int32).toNatClampNeg)) fun x5_8 => zl ((x3 + 1)) fun x6_9 => (if x5_8 = 33 then (if (M.1 x0 10) = 0 then (f_X4_run_223 x0 x2 (f_X4_run_20 x0 x2 n) x4 x6_9 x0 1 M) else (f_X4_run_223 x0 x2 (f_X4_run_20 x0 x2 n) x4 x6_9 x0 0 M)) else if x5_8 = 37 then (f_X4_run_238 x0 x2 (f_X4_run_20 x0 x2 n) x4 x5_8 x6_9 M) else if x5_8 = 38 then (if (M.1 x0 10) = 0 then z_rd (M.2.1 x0 1) fun a_15 => if z_ix x3 (z_ln SH a_15) = true then (f_X4_run_205 x0 x2 (f_X4_run_20 x0 x2 n) x4 (M.1 a_15 (x3 : Int32).toNatClampNeg) M) else none else (f_X4_run_205 x0 x2 (f_X4_run_20 x0 x2 n) x4 x6_9 M)) else if x5_8 = 42 then (f_X4_run_238 x0 x2 (f_X4_run_20 x0 x2 n) x4 x5_8 x6_9 M) else if x5_8 = 43 then (f_X4_run_238 x0 x2 (f_X4_run_20 x0 x2 n) x4 x5_8 x6_9 M) else if x5_8 = 45 then (f_X4_run_238 x0 x2 (f_X4_run_20 x0 x2 n) x4 x5_8 x6_9 M) else if x5_8 = 47 then (f_X4_run_238 x0 x2 (f_X4_run_20 x0 x2 n) x4 x5_8 x6_9 M) else if x5_8 = 60 then (f_X4_run_229 x0 x2 (f_X4_run_20 x0 x2 n) x4 x5_8 x6_9 M) else if x5_8 = 61 then (f_X4_run_229 x0 x2 (f_X4_run_20 x0 x2 n) x4 x5_8 x6_9 M) else if x5_8 = 62 then (f_X4_run_229 x0 x2 (f_X4_run_20 x0 x2 n) x4 x5_8 x6_9 M) else if x5_8 = 124 then (if (M.1 x0 10) = 0 then (f_X4_run_182 x0 x2 (f_X4_run_20 x0 x2 n) x4 x6_9 M) else z_rd (M.2.1 x0 1) fun a_26 => if z_ix x3 (z_ln SH a_26) = true then (f_X4_run_182 x0 x2 (f_X4_run_20 x0 x2 n) x4 (M.1 a_26 (x3 : Int32).toNatClampNeg) M) else none) else (if x5_8 = 48 then z_rd (M.2.1 x0 1) fun a_32 => if z_ix x3 (z_ln SH a_32) = true then (f_X4_run_270 x0 x2 (f_X4_run_20 x0 x2 n) x4 x6_9 x0 (M.1 a_32 (x3 : Int32).toNatClampNeg) M) else none else z_call (f_X4_letter x0 x5_8 M) fun v_29 M_30 => (f_X4_run_270 x0 x2 (f_X4_run_20 x0 x2 n) x4 x6_9 x0 v_29 M_30))) else none else some ((), M))))))
set_option maxHeartbeats 2000000 in
set_option maxRecDepth 20000 in
theorem t_X4_run_20 {l : Launch} {x0 : Nat} {x2 : Int32} {MO : zM} {v : Unit} (h0 : z_tm SH 4 x0) : ∀ (n : Nat) (x3 : Int32) (x4 : Int32) (M : zM), f_X4_run_20 x0 x2 n x3 x4 M = some (v, MO) → zA l yX4_run cX4_run 7 none 2 0 0 SH.length (zDv SH MO) 0 0 20 [(0, .ref x0), (2, .int x2), (3, .int x3), (4, .int x4)] [] SH M := by
  intro n
  induction n with
  | zero =>
    intro x3 x4 M hf
    rw [f_X4_run_20] at hf
    cases hf
  | succ n ih =>
    intro x3 x4 M hf
    rw [f_X4_run_20] at hf
    refine z_iload dX4_run_20 rfl ?_
    refine z_sipush (v := 240) dX4_run_22 (by decide) ?_
    refine z_icmp_ge (tgt := 282) dX4_run_25 (by decide) (fun q_1 => ?_) (fun q_1 => ?_)
    · have hf := (if_pos q_1).symm.trans hf
      obtain ⟨rfl, rfl⟩ := z_end hf
      exact z_vret ⟨rfl, rfl, rfl⟩ rfl dX4_run_282
    · have hf := (if_neg q_1).symm.trans hf
      refine z_iload_n dX4_run_28 rfl rfl ?_
      refine z_if_lt (tgt := 282) dX4_run_29 (by decide) (fun q_2 => ?_) (fun q_2 => ?_)
      · have hf := (if_pos q_2).symm.trans hf
        obtain ⟨rfl, rfl⟩ := z_end hf
        exact z_vret ⟨rfl, rfl, rfl⟩ rfl dX4_run_282
      · have hf := (if_neg q_2).symm.trans hf
        refine z_iload_n dX4_run_32 rfl rfl ?_
        refine z_iload_n dX4_run_33 rfl rfl ?_
        refine z_icmp_ge (tgt := 282) dX4_run_34 (by decide) (fun q_3 => ?_) (fun q_3 => ?_)
        · have hf := (if_pos q_3).symm.trans hf
          obtain ⟨rfl, rfl⟩ := z_end hf
          exact z_vret ⟨rfl, rfl, rfl⟩ rfl dX4_run_282
        · have hf := (if_neg q_3).symm.trans hf
          refine z_iload_n dX4_run_37 rfl rfl ?_
          refine z_aload_n dX4_run_38 rfl rfl ?_
          refine zgI fl_X4_37 h0 (fun _ => rfl) dX4_run_39 ?_
          refine z_icmp_ge (tgt := 282) dX4_run_42 (by decide) (fun q_4 => ?_) (fun q_4 => ?_)
          · have hf := (if_pos q_4).symm.trans hf
            obtain ⟨rfl, rfl⟩ := z_end hf
            exact z_vret ⟨rfl, rfl, rfl⟩ rfl dX4_run_282
          · have hf := (if_neg q_4).symm.trans hf
            refine z_aload_n dX4_run_45 rfl rfl ?_
            refine zgI fl_X4_61 h0 (fun _ => rfl) dX4_run_46 ?_
            refine z_if_ne (tgt := 282) dX4_run_49 (by decide) (fun q_5 => ?_) (fun q_5 => ?_)
            · have hf := (if_neg q_5).symm.trans hf
              obtain ⟨rfl, rfl⟩ := z_end hf
              exact z_vret ⟨rfl, rfl, rfl⟩ rfl dX4_run_282
            · have hf := (if_pos q_5).symm.trans hf
              refine z_aload_n dX4_run_52 rfl rfl ?_
              obtain ⟨a_6, ra_6, hf⟩ := z_rd_some hf
              refine zgR fl_X4_9 h0 (fun _ => rfl) ra_6 dX4_run_53 (fun ha_6 => ?_)
              refine z_iload_n dX4_run_56 rfl rfl ?_
              obtain ⟨g_7, hf⟩ := z_ifs hf
              refine z_iald ha_6 g_7 rfl dX4_run_57 ?_
              obtain ⟨x5_8, ex5_8, hf⟩ := zl_some hf
              refine z_istore' (lv' := [(5, .int x5_8), (0, .ref x0), (2, .int x2), (3, .int x3), (4, .int x4)]) dX4_run_58 (by decide) ex5_8 rfl ?_
              refine z_iload_n dX4_run_60 rfl rfl ?_
              refine z_iconst (v := 1) dX4_run_61 (by decide) ?_
              refine z_iadd dX4_run_62 ?_
              obtain ⟨x6_9, ex6_9, hf⟩ := zl_some hf
              refine z_istore' (lv' := [(6, .int x6_9), (5, .int x5_8), (0, .ref x0), (2, .int x2), (3, .int x3), (4, .int x4)]) dX4_run_63 (by decide) ex6_9 rfl ?_
              refine z_iload dX4_run_65 rfl ?_
              by_cases q_10 : x5_8 = 33
              · have hf := (if_pos q_10).symm.trans hf
                refine z_look (tgt := 210) (off := 143) dX4_run_67 (by decide) (by rw [q_10]; first | rfl | decide) (by decide) ?_
                refine z_aload_n dX4_run_210 rfl rfl ?_
                refine z_aload_n dX4_run_211 rfl rfl ?_
                refine zgI fl_X4_57 h0 (fun _ => rfl) dX4_run_212 ?_
                refine z_if_ne (tgt := 222) dX4_run_215 (by decide) (fun q_11 => ?_) (fun q_11 => ?_)
                · have hf := (if_neg q_11).symm.trans hf
                  refine z_iconst (v := 0) dX4_run_222 (by decide) ?_
                  refine zA.pick [(0, .ref x0), (2, .int x2), (4, .int x4), (6, .int x6_9)] [2, 3, 5, 0] rfl ?_
                  exact t_X4_run_223 h0 ih h0 hf
                · have hf := (if_pos q_11).symm.trans hf
                  refine z_iconst (v := 1) dX4_run_218 (by decide) ?_
                  refine z_goto (tgt := 223) dX4_run_219 (by decide) ?_
                  refine zA.pick [(0, .ref x0), (2, .int x2), (4, .int x4), (6, .int x6_9)] [2, 3, 5, 0] rfl ?_
                  exact t_X4_run_223 h0 ih h0 hf
              have hf := (if_neg q_10).symm.trans hf
              by_cases q_12 : x5_8 = 37
              · have hf := (if_pos q_12).symm.trans hf
                refine z_look (tgt := 238) (off := 171) dX4_run_67 (by decide) (by rw [q_12]; first | rfl | decide) (by decide) ?_
                refine zA.pick [(0, .ref x0), (2, .int x2), (4, .int x4), (5, .int x5_8), (6, .int x6_9)] [2, 3, 5, 1, 0] rfl ?_
                exact t_X4_run_238 h0 ih hf
              have hf := (if_neg q_12).symm.trans hf
              by_cases q_13 : x5_8 = 38
              · have hf := (if_pos q_13).symm.trans hf
                refine z_look (tgt := 187) (off := 120) dX4_run_67 (by decide) (by rw [q_13]; first | rfl | decide) (by decide) ?_
                refine z_aload_n dX4_run_187 rfl rfl ?_
                refine zgI fl_X4_57 h0 (fun _ => rfl) dX4_run_188 ?_
                refine z_if_eq (tgt := 199) dX4_run_191 (by decide) (fun q_14 => ?_) (fun q_14 => ?_)
                · have hf := (if_pos q_14).symm.trans hf
                  refine z_aload_n dX4_run_199 rfl rfl ?_
                  obtain ⟨a_15, ra_15, hf⟩ := z_rd_some hf
                  refine zgR fl_X4_15 h0 (fun _ => rfl) ra_15 dX4_run_200 (fun ha_15 => ?_)
                  refine z_iload_n dX4_run_203 rfl rfl ?_
                  obtain ⟨g_16, hf⟩ := z_ifs hf
                  refine z_iald ha_15 g_16 rfl dX4_run_204 ?_
                  refine zA.pick [(0, .ref x0), (2, .int x2), (4, .int x4)] [2, 3, 5] rfl ?_
                  exact t_X4_run_205 h0 ih hf
                · have hf := (if_neg q_14).symm.trans hf
                  refine z_iload dX4_run_194 rfl ?_
                  refine z_goto (tgt := 205) dX4_run_196 (by decide) ?_
                  refine zA.pick [(0, .ref x0), (2, .int x2), (4, .int x4)] [2, 3, 5] rfl ?_
                  exact t_X4_run_205 h0 ih hf
              have hf := (if_neg q_13).symm.trans hf
              by_cases q_17 : x5_8 = 42
              · have hf := (if_pos q_17).symm.trans hf
                refine z_look (tgt := 238) (off := 171) dX4_run_67 (by decide) (by rw [q_17]; first | rfl | decide) (by decide) ?_
                refine zA.pick [(0, .ref x0), (2, .int x2), (4, .int x4), (5, .int x5_8), (6, .int x6_9)] [2, 3, 5, 1, 0] rfl ?_
                exact t_X4_run_238 h0 ih hf
              have hf := (if_neg q_17).symm.trans hf
              by_cases q_18 : x5_8 = 43
              · have hf := (if_pos q_18).symm.trans hf
                refine z_look (tgt := 238) (off := 171) dX4_run_67 (by decide) (by rw [q_18]; first | rfl | decide) (by decide) ?_
                refine zA.pick [(0, .ref x0), (2, .int x2), (4, .int x4), (5, .int x5_8), (6, .int x6_9)] [2, 3, 5, 1, 0] rfl ?_
                exact t_X4_run_238 h0 ih hf
              have hf := (if_neg q_18).symm.trans hf
              by_cases q_19 : x5_8 = 45
              · have hf := (if_pos q_19).symm.trans hf
                refine z_look (tgt := 238) (off := 171) dX4_run_67 (by decide) (by rw [q_19]; first | rfl | decide) (by decide) ?_
                refine zA.pick [(0, .ref x0), (2, .int x2), (4, .int x4), (5, .int x5_8), (6, .int x6_9)] [2, 3, 5, 1, 0] rfl ?_
                exact t_X4_run_238 h0 ih hf
              have hf := (if_neg q_19).symm.trans hf
              by_cases q_20 : x5_8 = 47
              · have hf := (if_pos q_20).symm.trans hf
                refine z_look (tgt := 238) (off := 171) dX4_run_67 (by decide) (by rw [q_20]; first | rfl | decide) (by decide) ?_
                refine zA.pick [(0, .ref x0), (2, .int x2), (4, .int x4), (5, .int x5_8), (6, .int x6_9)] [2, 3, 5, 1, 0] rfl ?_
                exact t_X4_run_238 h0 ih hf
              have hf := (if_neg q_20).symm.trans hf
              by_cases q_21 : x5_8 = 60
              · have hf := (if_pos q_21).symm.trans hf
                refine z_look (tgt := 229) (off := 162) dX4_run_67 (by decide) (by rw [q_21]; first | rfl | decide) (by decide) ?_
                refine zA.pick [(0, .ref x0), (2, .int x2), (4, .int x4), (5, .int x5_8), (6, .int x6_9)] [2, 3, 5, 1, 0] rfl ?_
                exact t_X4_run_229 h0 ih hf
              have hf := (if_neg q_21).symm.trans hf
              by_cases q_22 : x5_8 = 61
              · have hf := (if_pos q_22).symm.trans hf
                refine z_look (tgt := 229) (off := 162) dX4_run_67 (by decide) (by rw [q_22]; first | rfl | decide) (by decide) ?_
                refine zA.pick [(0, .ref x0), (2, .int x2), (4, .int x4), (5, .int x5_8), (6, .int x6_9)] [2, 3, 5, 1, 0] rfl ?_
                exact t_X4_run_229 h0 ih hf
              have hf := (if_neg q_22).symm.trans hf
              by_cases q_23 : x5_8 = 62
              · have hf := (if_pos q_23).symm.trans hf
                refine z_look (tgt := 229) (off := 162) dX4_run_67 (by decide) (by rw [q_23]; first | rfl | decide) (by decide) ?_
                refine zA.pick [(0, .ref x0), (2, .int x2), (4, .int x4), (5, .int x5_8), (6, .int x6_9)] [2, 3, 5, 1, 0] rfl ?_
                exact t_X4_run_229 h0 ih hf
              have hf := (if_neg q_23).symm.trans hf
              by_cases q_24 : x5_8 = 124
              · have hf := (if_pos q_24).symm.trans hf
                refine z_look (tgt := 164) (off := 97) dX4_run_67 (by decide) (by rw [q_24]; first | rfl | decide) (by decide) ?_
                refine z_aload_n dX4_run_164 rfl rfl ?_
                refine zgI fl_X4_57 h0 (fun _ => rfl) dX4_run_165 ?_
                refine z_if_eq (tgt := 180) dX4_run_168 (by decide) (fun q_25 => ?_) (fun q_25 => ?_)
                · have hf := (if_pos q_25).symm.trans hf
                  refine z_iload dX4_run_180 rfl ?_
                  refine zA.pick [(0, .ref x0), (2, .int x2), (4, .int x4)] [2, 3, 5] rfl ?_
                  exact t_X4_run_182 h0 ih hf
                · have hf := (if_neg q_25).symm.trans hf
                  refine z_aload_n dX4_run_171 rfl rfl ?_
                  obtain ⟨a_26, ra_26, hf⟩ := z_rd_some hf
                  refine zgR fl_X4_15 h0 (fun _ => rfl) ra_26 dX4_run_172 (fun ha_26 => ?_)
                  refine z_iload_n dX4_run_175 rfl rfl ?_
                  obtain ⟨g_27, hf⟩ := z_ifs hf
                  refine z_iald ha_26 g_27 rfl dX4_run_176 ?_
                  refine z_goto (tgt := 182) dX4_run_177 (by decide) ?_
                  refine zA.pick [(0, .ref x0), (2, .int x2), (4, .int x4)] [2, 3, 5] rfl ?_
                  exact t_X4_run_182 h0 ih hf
              have hf := (if_neg q_24).symm.trans hf
              refine z_look (tgt := 247) (off := 180) dX4_run_67 (by decide) (by rw [lv_osw q_10 (by decide)]; rw [lv_osw q_12 (by decide)]; rw [lv_osw q_13 (by decide)]; rw [lv_osw q_17 (by decide)]; rw [lv_osw q_18 (by decide)]; rw [lv_osw q_19 (by decide)]; rw [lv_osw q_20 (by decide)]; rw [lv_osw q_21 (by decide)]; rw [lv_osw q_22 (by decide)]; rw [lv_osw q_23 (by decide)]; rw [lv_osw q_24 (by decide)]; rfl) (by decide) ?_
              refine z_aload_n dX4_run_247 rfl rfl ?_
              refine z_iload dX4_run_248 rfl ?_
              refine z_bipush (v := 48) dX4_run_250 (by decide) ?_
              refine z_icmp_ne (tgt := 264) dX4_run_252 (by decide) (fun q_28 => ?_) (fun q_28 => ?_)
              · have hf := (if_neg q_28).symm.trans hf
                refine z_aload_n dX4_run_264 rfl rfl ?_
                refine z_iload dX4_run_265 rfl ?_
                obtain ⟨v_29, M_30, c_31, hf⟩ := z_call_some hf
                refine z_cVi (t_X4_letter h0 c_31) kw_X4_letter lk_X4_83 h0 rfl (by decide) rfl (Nat.le_of_ble_eq_true rfl) ⟨Nat.le_refl 0, Nat.le_refl 0⟩ dX4_run_267 ?_
                refine zA.pick [(0, .ref x0), (2, .int x2), (4, .int x4), (6, .int x6_9)] [2, 3, 5, 0] rfl ?_
                exact t_X4_run_270 h0 ih h0 hf
              · have hf := (if_pos q_28).symm.trans hf
                refine z_aload_n dX4_run_255 rfl rfl ?_
                obtain ⟨a_32, ra_32, hf⟩ := z_rd_some hf
                refine zgR fl_X4_15 h0 (fun _ => rfl) ra_32 dX4_run_256 (fun ha_32 => ?_)
                refine z_iload_n dX4_run_259 rfl rfl ?_
                obtain ⟨g_33, hf⟩ := z_ifs hf
                refine z_iald ha_32 g_33 rfl dX4_run_260 ?_
                refine z_goto (tgt := 270) dX4_run_261 (by decide) ?_
                refine zA.pick [(0, .ref x0), (2, .int x2), (4, .int x4), (6, .int x6_9)] [2, 3, 5, 0] rfl ?_
                exact t_X4_run_270 h0 ih h0 hf
noncomputable def f_X4_run (x0 : Nat) (x1 : Int32) (x2 : Int32) (M : zM) : Option (Unit × zM) :=
  zl (zu M.1 x0 9 0, M.2) fun M_1 => zl (zu M_1.1 x0 10 0, M_1.2) fun M_2 => zl (zu M_2.1 x0 11 0, M_2.2) fun M_3 => (f_X4_run_20 x0 x2 zF x1 0 M_3)
set_option maxHeartbeats 2000000 in
set_option maxRecDepth 20000 in
theorem t_X4_run {l : Launch} {x0 : Nat} {x1 : Int32} {x2 : Int32} {M MO : zM} {v : Unit} (h0 : z_tm SH 4 x0) (hf : f_X4_run x0 x1 x2 M = some (v, MO)) : zMet l yX4_run cX4_run 7 none 2 0 0 [.ref x0, .int x1, .int x2] SH M (zDv SH MO) := by
  refine zMet.of (by decide +kernel) (Nat.le_of_ble_eq_true rfl) (Or.inl rfl) ?_
  show zA l yX4_run cX4_run 7 none 2 0 0 SH.length (zDv SH MO) 0 0 0 [(0, .ref x0), (1, .int x1), (2, .int x2)] [] SH M
  unfold f_X4_run at hf
  refine z_aload_n dX4_run_0 rfl rfl ?_
  refine z_iconst (v := 0) dX4_run_1 (by decide) ?_
  obtain ⟨M_1, eM_1, hf⟩ := zl_some hf
  refine zpI fl_X4_73 h0 rfl (Or.inl rfl) eM_1 dX4_run_2 ?_
  refine z_aload_n dX4_run_5 rfl rfl ?_
  refine z_iconst (v := 0) dX4_run_6 (by decide) ?_
  obtain ⟨M_2, eM_2, hf⟩ := zl_some hf
  refine zpI fl_X4_57 h0 rfl (Or.inr ⟨rfl, (Or.inl rfl)⟩) eM_2 dX4_run_7 ?_
  refine z_aload_n dX4_run_10 rfl rfl ?_
  refine z_iconst (v := 0) dX4_run_11 (by decide) ?_
  obtain ⟨M_3, eM_3, hf⟩ := zl_some hf
  refine zpI fl_X4_61 h0 rfl (Or.inr ⟨rfl, (Or.inl rfl)⟩) eM_3 dX4_run_12 ?_
  refine z_iload_n dX4_run_15 rfl rfl ?_
  refine z_istore_n' (lv' := [(3, .int x1), (0, .ref x0), (1, .int x1), (2, .int x2)]) rfl dX4_run_16 (by decide) rfl rfl ?_
  refine z_iconst (v := 0) dX4_run_17 (by decide) ?_
  refine z_istore' (lv' := [(4, .int 0), (3, .int x1), (0, .ref x0), (1, .int x1), (2, .int x2)]) dX4_run_18 (by decide) rfl rfl ?_
  refine zA.pick [(0, .ref x0), (2, .int x2), (3, .int x1), (4, .int 0)] [2, 4, 1, 0] rfl ?_
  exact t_X4_run_20 h0 zF x1 0 M_3 hf
noncomputable def f_X4_isFog_59 (x0 : Nat) (k2 : Int32 → zM → Option (Int32 × zM)) (x1 : Int32) (M : zM) : Option (Int32 × zM) :=
  zl (x1 + 1) fun x1_1 => (k2 x1_1 M)
set_option maxHeartbeats 2000000 in
set_option maxRecDepth 20000 in
theorem t_X4_isFog_59 {l : Launch} {x0 : Nat} {k2 : Int32 → zM → Option (Int32 × zM)} {x1 : Int32} {M MO : zM} {v : Int32} (h0 : z_tm SH 4 x0) (hk2 : ∀ (x1 : Int32) (M : zM), k2 x1 M = some (v, MO) → zA l yX4_isFog cX4_isFog 2 (some .boolean) 3 0 0 SH.length (zDi SH v MO) 0 0 2 [(0, .ref x0), (1, .int x1)] [] SH M) (hf : f_X4_isFog_59 x0 k2 x1 M = some (v, MO)) : zA l yX4_isFog cX4_isFog 2 (some .boolean) 3 0 0 SH.length (zDi SH v MO) 0 0 59 [(0, .ref x0), (1, .int x1)] [] SH M := by
  unfold f_X4_isFog_59 at hf
  obtain ⟨x1_1, ex1_1, hf⟩ := zl_some hf
  refine z_iinc' (lv' := [(1, .int x1_1), (0, .ref x0)]) dX4_isFog_59 rfl (by decide) ex1_1 (by decide) rfl ?_
  refine z_goto (tgt := 2) dX4_isFog_62 (by decide) ?_
  refine zA.pick [(0, .ref x0), (1, .int x1_1)] [1, 0] rfl ?_
  exact hk2 x1_1 M hf
noncomputable def f_X4_isFog_2 (x0 : Nat) : Nat → Int32 → zM → Option (Int32 × zM)
  | 0, _, _ => none
  | n + 1, x1, M =>
    (if (M.1 x0 7) ≤ x1 then some (0, M) else (if 16 ≤ x1 then some (0, M) else z_rd (M.2.1 x0 2) fun a_3 => if z_ix x1 (z_ln SH a_3) = true then (if (M.1 a_3 (x1 : Int32).toNatClampNeg) = 120 then z_rd (M.2.1 x0 4) fun a_6 => if z_ix x1 (z_ln SH a_6) = true then z_rd (M.2.1 x0 5) fun a_8 => if z_ix x1 (z_ln SH a_8) = true then z_call (f_X4_run x0 (M.1 a_6 (x1 : Int32).toNatClampNeg) (M.1 a_8 (x1 : Int32).toNatClampNeg) M) fun v_10 M_11 => (if (M_11.1 x0 10) = 0 then (f_X4_isFog_59 x0 (f_X4_isFog_2 x0 n) x1 M_11) else (if (M_11.1 x0 11) = 0 then some (1, M_11) else (f_X4_isFog_59 x0 (f_X4_isFog_2 x0 n) x1 M_11))) else none else none else (f_X4_isFog_59 x0 (f_X4_isFog_2 x0 n) x1 M)) else none))
set_option maxHeartbeats 2000000 in
set_option maxRecDepth 20000 in
theorem t_X4_isFog_2 {l : Launch} {x0 : Nat} {MO : zM} {v : Int32} (h0 : z_tm SH 4 x0) : ∀ (n : Nat) (x1 : Int32) (M : zM), f_X4_isFog_2 x0 n x1 M = some (v, MO) → zA l yX4_isFog cX4_isFog 2 (some .boolean) 3 0 0 SH.length (zDi SH v MO) 0 0 2 [(0, .ref x0), (1, .int x1)] [] SH M := by
  intro n
  induction n with
  | zero =>
    intro x1 M hf
    rw [f_X4_isFog_2] at hf
    cases hf
  | succ n ih =>
    intro x1 M hf
    rw [f_X4_isFog_2] at hf
    refine z_iload_n dX4_isFog_2 rfl rfl ?_
    refine z_aload_n dX4_isFog_3 rfl rfl ?_
    refine zgI fl_X4_41 h0 (fun _ => rfl) dX4_isFog_4 ?_
    refine z_icmp_ge (tgt := 65) dX4_isFog_7 (by decide) (fun q_1 => ?_) (fun q_1 => ?_)
    · have hf := (if_pos q_1).symm.trans hf
      refine z_iconst (v := 0) dX4_isFog_65 (by decide) ?_
      obtain ⟨rfl, rfl⟩ := z_end hf
      exact z_iret ⟨rfl, rfl, rfl⟩ (Or.inr ⟨rfl, (Or.inl rfl)⟩) dX4_isFog_66
    · have hf := (if_neg q_1).symm.trans hf
      refine z_iload_n dX4_isFog_10 rfl rfl ?_
      refine z_bipush (v := 16) dX4_isFog_11 (by decide) ?_
      refine z_icmp_ge (tgt := 65) dX4_isFog_13 (by decide) (fun q_2 => ?_) (fun q_2 => ?_)
      · have hf := (if_pos q_2).symm.trans hf
        refine z_iconst (v := 0) dX4_isFog_65 (by decide) ?_
        obtain ⟨rfl, rfl⟩ := z_end hf
        exact z_iret ⟨rfl, rfl, rfl⟩ (Or.inr ⟨rfl, (Or.inl rfl)⟩) dX4_isFog_66
      · have hf := (if_neg q_2).symm.trans hf
        refine z_aload_n dX4_isFog_16 rfl rfl ?_
        obtain ⟨a_3, ra_3, hf⟩ := z_rd_some hf
        refine zgR fl_X4_18 h0 (fun _ => rfl) ra_3 dX4_isFog_17 (fun ha_3 => ?_)
        refine z_iload_n dX4_isFog_20 rfl rfl ?_
        obtain ⟨g_4, hf⟩ := z_ifs hf
        refine z_iald ha_3 g_4 rfl dX4_isFog_21 ?_
        refine z_bipush (v := 120) dX4_isFog_22 (by decide) ?_
        refine z_icmp_ne (tgt := 59) dX4_isFog_24 (by decide) (fun q_5 => ?_) (fun q_5 => ?_)
        · have hf := (if_neg q_5).symm.trans hf
          exact t_X4_isFog_59 h0 ih hf
        · have hf := (if_pos q_5).symm.trans hf
          refine z_aload_n dX4_isFog_27 rfl rfl ?_
          refine z_aload_n dX4_isFog_28 rfl rfl ?_
          obtain ⟨a_6, ra_6, hf⟩ := z_rd_some hf
          refine zgR fl_X4_24 h0 (fun _ => rfl) ra_6 dX4_isFog_29 (fun ha_6 => ?_)
          refine z_iload_n dX4_isFog_32 rfl rfl ?_
          obtain ⟨g_7, hf⟩ := z_ifs hf
          refine z_iald ha_6 g_7 rfl dX4_isFog_33 ?_
          refine z_aload_n dX4_isFog_34 rfl rfl ?_
          obtain ⟨a_8, ra_8, hf⟩ := z_rd_some hf
          refine zgR fl_X4_27 h0 (fun _ => rfl) ra_8 dX4_isFog_35 (fun ha_8 => ?_)
          refine z_iload_n dX4_isFog_38 rfl rfl ?_
          obtain ⟨g_9, hf⟩ := z_ifs hf
          refine z_iald ha_8 g_9 rfl dX4_isFog_39 ?_
          obtain ⟨v_10, M_11, c_12, hf⟩ := z_call_some hf
          refine z_cVv (t_X4_run h0 c_12) kw_X4_run lk_X4_53 h0 rfl (by decide) rfl (Nat.le_of_ble_eq_true rfl) ⟨Nat.le_refl 0, Nat.le_refl 0⟩ dX4_isFog_40 ?_
          refine z_aload_n dX4_isFog_43 rfl rfl ?_
          refine zgI fl_X4_57 h0 (fun _ => rfl) dX4_isFog_44 ?_
          refine z_if_eq (tgt := 59) dX4_isFog_47 (by decide) (fun q_13 => ?_) (fun q_13 => ?_)
          · have hf := (if_pos q_13).symm.trans hf
            exact t_X4_isFog_59 h0 ih hf
          · have hf := (if_neg q_13).symm.trans hf
            refine z_aload_n dX4_isFog_50 rfl rfl ?_
            refine zgI fl_X4_61 h0 (fun _ => rfl) dX4_isFog_51 ?_
            refine z_if_ne (tgt := 59) dX4_isFog_54 (by decide) (fun q_14 => ?_) (fun q_14 => ?_)
            · have hf := (if_neg q_14).symm.trans hf
              exact t_X4_isFog_59 h0 ih hf
            · have hf := (if_pos q_14).symm.trans hf
              refine z_iconst (v := 1) dX4_isFog_57 (by decide) ?_
              obtain ⟨rfl, rfl⟩ := z_end hf
              exact z_iret ⟨rfl, rfl, rfl⟩ (Or.inr ⟨rfl, (Or.inr rfl)⟩) dX4_isFog_58
noncomputable def f_X4_isFog (x0 : Nat) (M : zM) : Option (Int32 × zM) :=
  (f_X4_isFog_2 x0 zF 0 M)
set_option maxHeartbeats 2000000 in
set_option maxRecDepth 20000 in
theorem t_X4_isFog {l : Launch} {x0 : Nat} {M MO : zM} {v : Int32} (h0 : z_tm SH 4 x0) (hf : f_X4_isFog x0 M = some (v, MO)) : zMet l yX4_isFog cX4_isFog 2 (some .boolean) 3 0 0 [.ref x0] SH M (zDi SH v MO) := by
  refine zMet.of (by decide +kernel) (Nat.le_of_ble_eq_true rfl) (Or.inr (Or.inr (Or.inl rfl))) ?_
  show zA l yX4_isFog cX4_isFog 2 (some .boolean) 3 0 0 SH.length (zDi SH v MO) 0 0 0 [(0, .ref x0)] [] SH M
  unfold f_X4_isFog at hf
  refine z_iconst (v := 0) dX4_isFog_0 (by decide) ?_
  refine z_istore_n' (lv' := [(1, .int 0), (0, .ref x0)]) rfl dX4_isFog_1 (by decide) rfl rfl ?_
  refine zA.pick [(0, .ref x0), (1, .int 0)] [1, 0] rfl ?_
  exact t_X4_isFog_2 h0 zF 0 M hf
noncomputable def f_X4_amountOf_98 (x0 : Nat) (x1 : Int32) (x2 : Int32) (k2 : Int32 → zM → Option (Int32 × zM)) (x3 : Int32) (M : zM) : Option (Int32 × zM) :=
  zl (x3 + 1) fun x3_1 => (k2 x3_1 M)
set_option maxHeartbeats 2000000 in
set_option maxRecDepth 20000 in
theorem t_X4_amountOf_98 {l : Launch} {x0 : Nat} {x1 : Int32} {x2 : Int32} {k2 : Int32 → zM → Option (Int32 × zM)} {x3 : Int32} {M MO : zM} {v : Int32} (h0 : z_tm SH 4 x0) (hk2 : ∀ (x3 : Int32) (M : zM), k2 x3 M = some (v, MO) → zA l yX4_amountOf cX4_amountOf 4 (some .int) 3 0 0 SH.length (zDi SH v MO) 0 0 2 [(0, .ref x0), (1, .int x1), (2, .int x2), (3, .int x3)] [] SH M) (hf : f_X4_amountOf_98 x0 x1 x2 k2 x3 M = some (v, MO)) : zA l yX4_amountOf cX4_amountOf 4 (some .int) 3 0 0 SH.length (zDi SH v MO) 0 0 98 [(0, .ref x0), (1, .int x1), (2, .int x2), (3, .int x3)] [] SH M := by
  unfold f_X4_amountOf_98 at hf
  obtain ⟨x3_1, ex3_1, hf⟩ := zl_some hf
  refine z_iinc' (lv' := [(3, .int x3_1), (0, .ref x0), (1, .int x1), (2, .int x2)]) dX4_amountOf_98 rfl (by decide) ex3_1 (by decide) rfl ?_
  refine z_goto (tgt := 2) dX4_amountOf_101 (by decide) ?_
  refine zA.pick [(0, .ref x0), (1, .int x1), (2, .int x2), (3, .int x3_1)] [1, 2, 3, 0] rfl ?_
  exact hk2 x3_1 M hf
noncomputable def f_X4_amountOf_2 (x0 : Nat) (x1 : Int32) (x2 : Int32) : Nat → Int32 → zM → Option (Int32 × zM)
  | 0, _, _ => none
  | n + 1, x3, M =>
    (if (M.1 x0 7) ≤ x3 then some (0, M) else (if 16 ≤ x3 then some (0, M) else z_rd (M.2.1 x0 2) fun a_3 => if z_ix x3 (z_ln SH a_3) = true then (if (M.1 a_3 (x3 : Int32).toNatClampNeg) = x1 then z_rd (M.2.1 x0 4) fun a_6 => if z_ix x3 (z_ln SH a_6) = true then z_rd (M.2.1 x0 5) fun a_8 => if z_ix x3 (z_ln SH a_8) = true then z_call (f_X4_run x0 (M.1 a_6 (x3 : Int32).toNatClampNeg) (M.1 a_8 (x3 : Int32).toNatClampNeg) M) fun v_10 M_11 => (if (M_11.1 x0 10) = 0 then (f_X4_amountOf_98 x0 x1 x2 (f_X4_amountOf_2 x0 x1 x2 n) x3 M_11) else (if (M_11.1 x0 11) = 0 then z_rd (M_11.2.1 x0 3) fun a_15 => if z_ix x3 (z_ln SH a_15) = true then z_rd (M_11.2.1 x0 4) fun a_17 => if z_ix x3 (z_ln SH a_17) = true then z_call (f_X4_run x0 (M_11.1 a_15 (x3 : Int32).toNatClampNeg) (M_11.1 a_17 (x3 : Int32).toNatClampNeg) M_11) fun v_19 M_20 => (if (M_20.1 x0 11) = 0 then z_rd (M_20.2.1 x0 8) fun a_23 => if z_ix 0 (z_ln SH a_23) = true then some ((z_max 0 (z_min x2 (M_20.1 a_23 (0 : Int32).toNatClampNeg))), M_20) else none else some (0, M_20)) else none else none else (f_X4_amountOf_98 x0 x1 x2 (f_X4_amountOf_2 x0 x1 x2 n) x3 M_11))) else none else none else (f_X4_amountOf_98 x0 x1 x2 (f_X4_amountOf_2 x0 x1 x2 n) x3 M)) else none))
set_option maxHeartbeats 2000000 in
set_option maxRecDepth 20000 in
theorem t_X4_amountOf_2 {l : Launch} {x0 : Nat} {x1 : Int32} {x2 : Int32} {MO : zM} {v : Int32} (h0 : z_tm SH 4 x0) : ∀ (n : Nat) (x3 : Int32) (M : zM), f_X4_amountOf_2 x0 x1 x2 n x3 M = some (v, MO) → zA l yX4_amountOf cX4_amountOf 4 (some .int) 3 0 0 SH.length (zDi SH v MO) 0 0 2 [(0, .ref x0), (1, .int x1), (2, .int x2), (3, .int x3)] [] SH M := by
  intro n
  induction n with
  | zero =>
    intro x3 M hf
    rw [f_X4_amountOf_2] at hf
    cases hf
  | succ n ih =>
    intro x3 M hf
    rw [f_X4_amountOf_2] at hf
    refine z_iload_n dX4_amountOf_2 rfl rfl ?_
    refine z_aload_n dX4_amountOf_3 rfl rfl ?_
    refine zgI fl_X4_41 h0 (fun _ => rfl) dX4_amountOf_4 ?_
    refine z_icmp_ge (tgt := 104) dX4_amountOf_7 (by decide) (fun q_1 => ?_) (fun q_1 => ?_)
    · have hf := (if_pos q_1).symm.trans hf
      refine z_iconst (v := 0) dX4_amountOf_104 (by decide) ?_
      obtain ⟨rfl, rfl⟩ := z_end hf
      exact z_iret ⟨rfl, rfl, rfl⟩ (Or.inl rfl) dX4_amountOf_105
    · have hf := (if_neg q_1).symm.trans hf
      refine z_iload_n dX4_amountOf_10 rfl rfl ?_
      refine z_bipush (v := 16) dX4_amountOf_11 (by decide) ?_
      refine z_icmp_ge (tgt := 104) dX4_amountOf_13 (by decide) (fun q_2 => ?_) (fun q_2 => ?_)
      · have hf := (if_pos q_2).symm.trans hf
        refine z_iconst (v := 0) dX4_amountOf_104 (by decide) ?_
        obtain ⟨rfl, rfl⟩ := z_end hf
        exact z_iret ⟨rfl, rfl, rfl⟩ (Or.inl rfl) dX4_amountOf_105
      · have hf := (if_neg q_2).symm.trans hf
        refine z_aload_n dX4_amountOf_16 rfl rfl ?_
        obtain ⟨a_3, ra_3, hf⟩ := z_rd_some hf
        refine zgR fl_X4_18 h0 (fun _ => rfl) ra_3 dX4_amountOf_17 (fun ha_3 => ?_)
        refine z_iload_n dX4_amountOf_20 rfl rfl ?_
        obtain ⟨g_4, hf⟩ := z_ifs hf
        refine z_iald ha_3 g_4 rfl dX4_amountOf_21 ?_
        refine z_iload_n dX4_amountOf_22 rfl rfl ?_
        refine z_icmp_ne (tgt := 98) dX4_amountOf_23 (by decide) (fun q_5 => ?_) (fun q_5 => ?_)
        · have hf := (if_neg q_5).symm.trans hf
          exact t_X4_amountOf_98 h0 ih hf
        · have hf := (if_pos q_5).symm.trans hf
          refine z_aload_n dX4_amountOf_26 rfl rfl ?_
          refine z_aload_n dX4_amountOf_27 rfl rfl ?_
          obtain ⟨a_6, ra_6, hf⟩ := z_rd_some hf
          refine zgR fl_X4_24 h0 (fun _ => rfl) ra_6 dX4_amountOf_28 (fun ha_6 => ?_)
          refine z_iload_n dX4_amountOf_31 rfl rfl ?_
          obtain ⟨g_7, hf⟩ := z_ifs hf
          refine z_iald ha_6 g_7 rfl dX4_amountOf_32 ?_
          refine z_aload_n dX4_amountOf_33 rfl rfl ?_
          obtain ⟨a_8, ra_8, hf⟩ := z_rd_some hf
          refine zgR fl_X4_27 h0 (fun _ => rfl) ra_8 dX4_amountOf_34 (fun ha_8 => ?_)
          refine z_iload_n dX4_amountOf_37 rfl rfl ?_
          obtain ⟨g_9, hf⟩ := z_ifs hf
          refine z_iald ha_8 g_9 rfl dX4_amountOf_38 ?_
          obtain ⟨v_10, M_11, c_12, hf⟩ := z_call_some hf
          refine z_cVv (t_X4_run h0 c_12) kw_X4_run lk_X4_53 h0 rfl (by decide) rfl (Nat.le_of_ble_eq_true rfl) ⟨Nat.le_refl 0, Nat.le_refl 0⟩ dX4_amountOf_39 ?_
          refine z_aload_n dX4_amountOf_42 rfl rfl ?_
          refine zgI fl_X4_57 h0 (fun _ => rfl) dX4_amountOf_43 ?_
          refine z_if_eq (tgt := 98) dX4_amountOf_46 (by decide) (fun q_13 => ?_) (fun q_13 => ?_)
          · have hf := (if_pos q_13).symm.trans hf
            exact t_X4_amountOf_98 h0 ih hf
          · have hf := (if_neg q_13).symm.trans hf
            refine z_aload_n dX4_amountOf_49 rfl rfl ?_
            refine zgI fl_X4_61 h0 (fun _ => rfl) dX4_amountOf_50 ?_
            refine z_if_ne (tgt := 98) dX4_amountOf_53 (by decide) (fun q_14 => ?_) (fun q_14 => ?_)
            · have hf := (if_neg q_14).symm.trans hf
              exact t_X4_amountOf_98 h0 ih hf
            · have hf := (if_pos q_14).symm.trans hf
              refine z_aload_n dX4_amountOf_56 rfl rfl ?_
              refine z_aload_n dX4_amountOf_57 rfl rfl ?_
              obtain ⟨a_15, ra_15, hf⟩ := z_rd_some hf
              refine zgR fl_X4_21 h0 (fun _ => rfl) ra_15 dX4_amountOf_58 (fun ha_15 => ?_)
              refine z_iload_n dX4_amountOf_61 rfl rfl ?_
              obtain ⟨g_16, hf⟩ := z_ifs hf
              refine z_iald ha_15 g_16 rfl dX4_amountOf_62 ?_
              refine z_aload_n dX4_amountOf_63 rfl rfl ?_
              obtain ⟨a_17, ra_17, hf⟩ := z_rd_some hf
              refine zgR fl_X4_24 h0 (fun _ => rfl) ra_17 dX4_amountOf_64 (fun ha_17 => ?_)
              refine z_iload_n dX4_amountOf_67 rfl rfl ?_
              obtain ⟨g_18, hf⟩ := z_ifs hf
              refine z_iald ha_17 g_18 rfl dX4_amountOf_68 ?_
              obtain ⟨v_19, M_20, c_21, hf⟩ := z_call_some hf
              refine z_cVv (t_X4_run h0 c_21) kw_X4_run lk_X4_53 h0 rfl (by decide) rfl (Nat.le_of_ble_eq_true rfl) ⟨Nat.le_refl 0, Nat.le_refl 0⟩ dX4_amountOf_69 ?_
              refine z_aload_n dX4_amountOf_72 rfl rfl ?_
              refine zgI fl_X4_61 h0 (fun _ => rfl) dX4_amountOf_73 ?_
              refine z_if_eq (tgt := 83) dX4_amountOf_76 (by decide) (fun q_22 => ?_) (fun q_22 => ?_)
              · have hf := (if_pos q_22).symm.trans hf
                refine z_iconst (v := 0) dX4_amountOf_83 (by decide) ?_
                refine z_iload_n dX4_amountOf_84 rfl rfl ?_
                refine z_aload_n dX4_amountOf_85 rfl rfl ?_
                obtain ⟨a_23, ra_23, hf⟩ := z_rd_some hf
                refine zgR fl_X4_30 h0 (fun _ => rfl) ra_23 dX4_amountOf_86 (fun ha_23 => ?_)
                refine z_iconst (v := 0) dX4_amountOf_89 (by decide) ?_
                obtain ⟨g_24, hf⟩ := z_ifs hf
                refine z_iald ha_23 g_24 rfl dX4_amountOf_90 ?_
                refine z_mmin mm_X4_64 mm_smin mm_ini mm_cmin (by decide) (Nat.le_of_ble_eq_true rfl) dX4_amountOf_91 ?_
                refine z_mmax mm_X4_70 mm_smax mm_ini mm_cmax (by decide) (Nat.le_of_ble_eq_true rfl) dX4_amountOf_94 ?_
                obtain ⟨rfl, rfl⟩ := z_end hf
                exact z_iret ⟨rfl, rfl, rfl⟩ (Or.inl rfl) dX4_amountOf_97
              · have hf := (if_neg q_22).symm.trans hf
                refine z_iconst (v := 0) dX4_amountOf_79 (by decide) ?_
                refine z_goto (tgt := 97) dX4_amountOf_80 (by decide) ?_
                obtain ⟨rfl, rfl⟩ := z_end hf
                exact z_iret ⟨rfl, rfl, rfl⟩ (Or.inl rfl) dX4_amountOf_97
noncomputable def f_X4_amountOf (x0 : Nat) (x1 : Int32) (x2 : Int32) (M : zM) : Option (Int32 × zM) :=
  (f_X4_amountOf_2 x0 x1 x2 zF 0 M)
set_option maxHeartbeats 2000000 in
set_option maxRecDepth 20000 in
theorem t_X4_amountOf {l : Launch} {x0 : Nat} {x1 : Int32} {x2 : Int32} {M MO : zM} {v : Int32} (h0 : z_tm SH 4 x0) (hf : f_X4_amountOf x0 x1 x2 M = some (v, MO)) : zMet l yX4_amountOf cX4_amountOf 4 (some .int) 3 0 0 [.ref x0, .int x1, .int x2] SH M (zDi SH v MO) := by
  refine zMet.of (by decide +kernel) (Nat.le_of_ble_eq_true rfl) (Or.inr (Or.inl rfl)) ?_
  show zA l yX4_amountOf cX4_amountOf 4 (some .int) 3 0 0 SH.length (zDi SH v MO) 0 0 0 [(0, .ref x0), (1, .int x1), (2, .int x2)] [] SH M
  unfold f_X4_amountOf at hf
  refine z_iconst (v := 0) dX4_amountOf_0 (by decide) ?_
  refine z_istore_n' (lv' := [(3, .int 0), (0, .ref x0), (1, .int x1), (2, .int x2)]) rfl dX4_amountOf_1 (by decide) rfl rfl ?_
  refine zA.pick [(0, .ref x0), (1, .int x1), (2, .int x2), (3, .int 0)] [1, 2, 3, 0] rfl ?_
  exact t_X4_amountOf_2 h0 zF 0 M hf
noncomputable def f_X5_opens (x0 : Nat) (x1 : Int32) (M : zM) : Option (Int32 × zM) :=
  (if x1 < 6 then z_rd (M.2.1 x0 0) fun a_2 => z_call (f_X10_step a_2 M) fun v_3 M_4 => some (1, M_4) else z_rd (M.2.1 x0 0) fun a_6 => z_rd (M.2.1 x0 0) fun a_7 => z_call (f_X10_failAt a_6 5 (M.1 a_7 3) M) fun v_8 M_9 => some (0, M_9))
set_option maxHeartbeats 2000000 in
set_option maxRecDepth 20000 in
theorem t_X5_opens {l : Launch} {x0 : Nat} {x1 : Int32} {M MO : zM} {v : Int32} (h0 : z_tm SH 5 x0) (hf : f_X5_opens x0 x1 M = some (v, MO)) : zMet l yX5_opens cX5_opens 2 (some .boolean) 2 0 0 [.ref x0, .int x1] SH M (zDi SH v MO) := by
  refine zMet.of (by decide +kernel) (Nat.le_of_ble_eq_true rfl) (Or.inr (Or.inr (Or.inl rfl))) ?_
  show zA l yX5_opens cX5_opens 2 (some .boolean) 2 0 0 SH.length (zDi SH v MO) 0 0 0 [(0, .ref x0), (1, .int x1)] [] SH M
  unfold f_X5_opens at hf
  refine z_iload_n dX5_opens_0 rfl rfl ?_
  refine z_bipush (v := 6) dX5_opens_1 (by decide) ?_
  refine z_icmp_lt (tgt := 23) dX5_opens_3 (by decide) (fun q_1 => ?_) (fun q_1 => ?_)
  · have hf := (if_pos q_1).symm.trans hf
    refine z_aload_n dX5_opens_23 rfl rfl ?_
    obtain ⟨a_2, ra_2, hf⟩ := z_rd_some hf
    refine zgR fl_X5_9 h0 (fun _ => rfl) ra_2 dX5_opens_24 (fun ha_2 => ?_)
    obtain ⟨v_3, M_4, c_5, hf⟩ := z_call_some hf
    refine z_cVv (t_X10_step ha_2 c_5) kw_X10_step lk_X5_52 ha_2 rfl (by decide) rfl (Nat.le_of_ble_eq_true rfl) ⟨Nat.le_refl 0, Nat.le_refl 0⟩ dX5_opens_27 ?_
    refine z_iconst (v := 1) dX5_opens_30 (by decide) ?_
    obtain ⟨rfl, rfl⟩ := z_end hf
    exact z_iret ⟨rfl, rfl, rfl⟩ (Or.inr ⟨rfl, (Or.inr rfl)⟩) dX5_opens_31
  · have hf := (if_neg q_1).symm.trans hf
    refine z_aload_n dX5_opens_6 rfl rfl ?_
    obtain ⟨a_6, ra_6, hf⟩ := z_rd_some hf
    refine zgR fl_X5_9 h0 (fun _ => rfl) ra_6 dX5_opens_7 (fun ha_6 => ?_)
    refine z_iconst (v := 5) dX5_opens_10 (by decide) ?_
    refine z_aload_n dX5_opens_11 rfl rfl ?_
    obtain ⟨a_7, ra_7, hf⟩ := z_rd_some hf
    refine zgR fl_X5_9 h0 (fun _ => rfl) ra_7 dX5_opens_12 (fun ha_7 => ?_)
    refine zgI fl_X5_41 ha_7 (fun _ => rfl) dX5_opens_15 ?_
    obtain ⟨v_8, M_9, c_10, hf⟩ := z_call_some hf
    refine z_cVv (t_X10_failAt ha_6 c_10) kw_X10_failAt lk_X5_45 ha_6 rfl (by decide) rfl (Nat.le_of_ble_eq_true rfl) ⟨Nat.le_refl 0, Nat.le_refl 0⟩ dX5_opens_18 ?_
    refine z_iconst (v := 0) dX5_opens_21 (by decide) ?_
    obtain ⟨rfl, rfl⟩ := z_end hf
    exact z_iret ⟨rfl, rfl, rfl⟩ (Or.inr ⟨rfl, (Or.inl rfl)⟩) dX5_opens_22
noncomputable def f_X5_isTimes (x0 : Int32) (M : zM) : Option (Int32 × zM) :=
  (if x0 = 42 then some (1, M) else (if x0 = 47 then some (1, M) else (if x0 = 37 then some (1, M) else some (0, M))))
set_option maxHeartbeats 2000000 in
set_option maxRecDepth 20000 in
theorem t_X5_isTimes {l : Launch} {x0 : Int32} {M MO : zM} {v : Int32} (hf : f_X5_isTimes x0 M = some (v, MO)) : zMet l yX5_isTimes cX5_isTimes 1 (some .boolean) 1 0 0 [.int x0] SH M (zDi SH v MO) := by
  refine zMet.of (by decide +kernel) (Nat.le_of_ble_eq_true rfl) (Or.inr (Or.inr (Or.inl rfl))) ?_
  show zA l yX5_isTimes cX5_isTimes 1 (some .boolean) 1 0 0 SH.length (zDi SH v MO) 0 0 0 [(0, .int x0)] [] SH M
  unfold f_X5_isTimes at hf
  refine z_iload_n dX5_isTimes_0 rfl rfl ?_
  refine z_bipush (v := 42) dX5_isTimes_1 (by decide) ?_
  refine z_icmp_eq (tgt := 18) dX5_isTimes_3 (by decide) (fun q_1 => ?_) (fun q_1 => ?_)
  · have hf := (if_pos q_1).symm.trans hf
    refine z_iconst (v := 1) dX5_isTimes_18 (by decide) ?_
    refine z_goto (tgt := 23) dX5_isTimes_19 (by decide) ?_
    obtain ⟨rfl, rfl⟩ := z_end hf
    exact z_iret ⟨rfl, rfl, rfl⟩ (Or.inr ⟨rfl, (Or.inr rfl)⟩) dX5_isTimes_23
  · have hf := (if_neg q_1).symm.trans hf
    refine z_iload_n dX5_isTimes_6 rfl rfl ?_
    refine z_bipush (v := 47) dX5_isTimes_7 (by decide) ?_
    refine z_icmp_eq (tgt := 18) dX5_isTimes_9 (by decide) (fun q_2 => ?_) (fun q_2 => ?_)
    · have hf := (if_pos q_2).symm.trans hf
      refine z_iconst (v := 1) dX5_isTimes_18 (by decide) ?_
      refine z_goto (tgt := 23) dX5_isTimes_19 (by decide) ?_
      obtain ⟨rfl, rfl⟩ := z_end hf
      exact z_iret ⟨rfl, rfl, rfl⟩ (Or.inr ⟨rfl, (Or.inr rfl)⟩) dX5_isTimes_23
    · have hf := (if_neg q_2).symm.trans hf
      refine z_iload_n dX5_isTimes_12 rfl rfl ?_
      refine z_bipush (v := 37) dX5_isTimes_13 (by decide) ?_
      refine z_icmp_ne (tgt := 22) dX5_isTimes_15 (by decide) (fun q_3 => ?_) (fun q_3 => ?_)
      · have hf := (if_neg q_3).symm.trans hf
        refine z_iconst (v := 0) dX5_isTimes_22 (by decide) ?_
        obtain ⟨rfl, rfl⟩ := z_end hf
        exact z_iret ⟨rfl, rfl, rfl⟩ (Or.inr ⟨rfl, (Or.inl rfl)⟩) dX5_isTimes_23
      · have hf := (if_pos q_3).symm.trans hf
        refine z_iconst (v := 1) dX5_isTimes_18 (by decide) ?_
        refine z_goto (tgt := 23) dX5_isTimes_19 (by decide) ?_
        obtain ⟨rfl, rfl⟩ := z_end hf
        exact z_iret ⟨rfl, rfl, rfl⟩ (Or.inr ⟨rfl, (Or.inr rfl)⟩) dX5_isTimes_23
noncomputable def f_X5_isLetter (x0 : Int32) (M : zM) : Option (Int32 × zM) :=
  (if x0 = 97 then some (1, M) else if x0 = 102 then some (1, M) else if x0 = 103 then some (1, M) else if x0 = 104 then some (1, M) else if x0 = 112 then some (1, M) else if x0 = 114 then some (1, M) else if x0 = 115 then some (1, M) else if x0 = 119 then some (1, M) else some (0, M))
set_option maxHeartbeats 2000000 in
set_option maxRecDepth 20000 in
theorem t_X5_isLetter {l : Launch} {x0 : Int32} {M MO : zM} {v : Int32} (hf : f_X5_isLetter x0 M = some (v, MO)) : zMet l yX5_isLetter cX5_isLetter 1 (some .boolean) 1 0 0 [.int x0] SH M (zDi SH v MO) := by
  refine zMet.of (by decide +kernel) (Nat.le_of_ble_eq_true rfl) (Or.inr (Or.inr (Or.inl rfl))) ?_
  show zA l yX5_isLetter cX5_isLetter 1 (some .boolean) 1 0 0 SH.length (zDi SH v MO) 0 0 0 [(0, .int x0)] [] SH M
  unfold f_X5_isLetter at hf
  refine z_iload_n dX5_isLetter_0 rfl rfl ?_
  by_cases q_1 : x0 = 97
  · have hf := (if_pos q_1).symm.trans hf
    refine z_tabIn (tgt := 108) (off := 107) dX5_isLetter_1 (by rw [q_1]; decide) (by rw [q_1]; decide) (by rw [q_1]; rfl) (by decide) ?_
    refine z_iconst (v := 1) dX5_isLetter_108 (by decide) ?_
    obtain ⟨rfl, rfl⟩ := z_end hf
    exact z_iret ⟨rfl, rfl, rfl⟩ (Or.inr ⟨rfl, (Or.inr rfl)⟩) dX5_isLetter_109
  have hf := (if_neg q_1).symm.trans hf
  by_cases q_2 : x0 = 102
  · have hf := (if_pos q_2).symm.trans hf
    refine z_tabIn (tgt := 108) (off := 107) dX5_isLetter_1 (by rw [q_2]; decide) (by rw [q_2]; decide) (by rw [q_2]; rfl) (by decide) ?_
    refine z_iconst (v := 1) dX5_isLetter_108 (by decide) ?_
    obtain ⟨rfl, rfl⟩ := z_end hf
    exact z_iret ⟨rfl, rfl, rfl⟩ (Or.inr ⟨rfl, (Or.inr rfl)⟩) dX5_isLetter_109
  have hf := (if_neg q_2).symm.trans hf
  by_cases q_3 : x0 = 103
  · have hf := (if_pos q_3).symm.trans hf
    refine z_tabIn (tgt := 108) (off := 107) dX5_isLetter_1 (by rw [q_3]; decide) (by rw [q_3]; decide) (by rw [q_3]; rfl) (by decide) ?_
    refine z_iconst (v := 1) dX5_isLetter_108 (by decide) ?_
    obtain ⟨rfl, rfl⟩ := z_end hf
    exact z_iret ⟨rfl, rfl, rfl⟩ (Or.inr ⟨rfl, (Or.inr rfl)⟩) dX5_isLetter_109
  have hf := (if_neg q_3).symm.trans hf
  by_cases q_4 : x0 = 104
  · have hf := (if_pos q_4).symm.trans hf
    refine z_tabIn (tgt := 108) (off := 107) dX5_isLetter_1 (by rw [q_4]; decide) (by rw [q_4]; decide) (by rw [q_4]; rfl) (by decide) ?_
    refine z_iconst (v := 1) dX5_isLetter_108 (by decide) ?_
    obtain ⟨rfl, rfl⟩ := z_end hf
    exact z_iret ⟨rfl, rfl, rfl⟩ (Or.inr ⟨rfl, (Or.inr rfl)⟩) dX5_isLetter_109
  have hf := (if_neg q_4).symm.trans hf
  by_cases q_5 : x0 = 112
  · have hf := (if_pos q_5).symm.trans hf
    refine z_tabIn (tgt := 108) (off := 107) dX5_isLetter_1 (by rw [q_5]; decide) (by rw [q_5]; decide) (by rw [q_5]; rfl) (by decide) ?_
    refine z_iconst (v := 1) dX5_isLetter_108 (by decide) ?_
    obtain ⟨rfl, rfl⟩ := z_end hf
    exact z_iret ⟨rfl, rfl, rfl⟩ (Or.inr ⟨rfl, (Or.inr rfl)⟩) dX5_isLetter_109
  have hf := (if_neg q_5).symm.trans hf
  by_cases q_6 : x0 = 114
  · have hf := (if_pos q_6).symm.trans hf
    refine z_tabIn (tgt := 108) (off := 107) dX5_isLetter_1 (by rw [q_6]; decide) (by rw [q_6]; decide) (by rw [q_6]; rfl) (by decide) ?_
    refine z_iconst (v := 1) dX5_isLetter_108 (by decide) ?_
    obtain ⟨rfl, rfl⟩ := z_end hf
    exact z_iret ⟨rfl, rfl, rfl⟩ (Or.inr ⟨rfl, (Or.inr rfl)⟩) dX5_isLetter_109
  have hf := (if_neg q_6).symm.trans hf
  by_cases q_7 : x0 = 115
  · have hf := (if_pos q_7).symm.trans hf
    refine z_tabIn (tgt := 108) (off := 107) dX5_isLetter_1 (by rw [q_7]; decide) (by rw [q_7]; decide) (by rw [q_7]; rfl) (by decide) ?_
    refine z_iconst (v := 1) dX5_isLetter_108 (by decide) ?_
    obtain ⟨rfl, rfl⟩ := z_end hf
    exact z_iret ⟨rfl, rfl, rfl⟩ (Or.inr ⟨rfl, (Or.inr rfl)⟩) dX5_isLetter_109
  have hf := (if_neg q_7).symm.trans hf
  by_cases q_8 : x0 = 119
  · have hf := (if_pos q_8).symm.trans hf
    refine z_tabIn (tgt := 108) (off := 107) dX5_isLetter_1 (by rw [q_8]; decide) (by rw [q_8]; decide) (by rw [q_8]; rfl) (by decide) ?_
    refine z_iconst (v := 1) dX5_isLetter_108 (by decide) ?_
    obtain ⟨rfl, rfl⟩ := z_end hf
    exact z_iret ⟨rfl, rfl, rfl⟩ (Or.inr ⟨rfl, (Or.inr rfl)⟩) dX5_isLetter_109
  have hf := (if_neg q_8).symm.trans hf
  refine z_tabD (tgt := 110) dX5_isLetter_1 [97, 102, 103, 104, 112, 114, 115, 119] (List.forall_mem_cons.mpr ⟨lv_neT q_1 (by decide), (List.forall_mem_cons.mpr ⟨lv_neT q_2 (by decide), (List.forall_mem_cons.mpr ⟨lv_neT q_3 (by decide), (List.forall_mem_cons.mpr ⟨lv_neT q_4 (by decide), (List.forall_mem_cons.mpr ⟨lv_neT q_5 (by decide), (List.forall_mem_cons.mpr ⟨lv_neT q_6 (by decide), (List.forall_mem_cons.mpr ⟨lv_neT q_7 (by decide), (List.forall_mem_cons.mpr ⟨lv_neT q_8 (by decide), (fun _ h => absurd h List.not_mem_nil)⟩)⟩)⟩)⟩)⟩)⟩)⟩)⟩) (by decide) (by decide) ?_
  refine z_iconst (v := 0) dX5_isLetter_110 (by decide) ?_
  obtain ⟨rfl, rfl⟩ := z_end hf
  exact z_iret ⟨rfl, rfl, rfl⟩ (Or.inr ⟨rfl, (Or.inl rfl)⟩) dX5_isLetter_111
