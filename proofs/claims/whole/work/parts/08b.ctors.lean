section ZCI
variable {l : Launch} {y : MethodName} {cc : ByteArray} {nL : Nat} {ret : Option FieldType} {d mc ms n0 : Nat} {Post : zP} {cells slots pc : Nat} {lv lv' : List (Nat × Value)} {st : List Value} {sh sh1 : List zC} {M M1 : zM}
theorem z_cI {y2 : MethodName} {cc2 : ByteArray} {nL2 : Nat} {d2 mc2 ms2 n index : Nat} {av st0 : List Value} {o : Nat} (hM : zMet l y2 cc2 nL2 none d2 mc2 ms2 (.ref o :: av) sh M (zDv sh1 M1)) (hw : zWd y2 cc2 nL2 none n) (hk : zLk y.cls index y2) (hi : Cond.instanceMethod y2 ∈ z_tbl) (hin : y2.name = "<init>") (hn : av.length = n) (hdp : d2 + 1 ≤ d) (hs0 : st0 = av.reverse ++ .ref o :: st) (hrs : (st.map fun v => v.category).sum ≤ 8) (hcs : cells + mc2 ≤ mc ∧ slots + ms2 ≤ ms) (hd : decode cc pc = .ok (.invokespecial index, 3)) (h : zA l y cc nL ret d mc ms n0 Post (cells + mc2) (slots + ms2) (pc + 3) lv st sh1 M1) : zA l y cc nL ret d mc ms n0 Post cells slots pc lv st0 sh M :=
  z_callI hM hw hk hi hin hn hdp hs0 hrs hcs hd (fun r sh' M' hp => by obtain ⟨rfl, rfl, rfl⟩ := hp; exact h)
end ZCI
noncomputable def fs_fill_5 (sh : List zC) (x0 : Nat) (x1 : Int32) : Nat → Int32 → Int32 → zM → Option (Unit × zM)
  | 0, _, _, _ => none
  | n + 1, x2, x3, M =>
    (if x3 ≤ x2 then some ((), M) else if z_ix x2 (z_ln sh x0) = true then zl (zu M.1 x0 (x2 : Int32).toNatClampNeg x1, M.2) fun M_3 => zl (x2 + 1) fun x2_4 => (fs_fill_5 sh x0 x1 n x2_4 x3 M_3) else none)
set_option maxHeartbeats 2000000 in
set_option maxRecDepth 20000 in
theorem ts_fill_5 {sh : List zC} {l : Launch} {x0 : Nat} {x1 : Int32} {MO : zM} {v : Unit} (h0 : z_tm sh 100 x0) : ∀ (n : Nat) (x2 : Int32) (x3 : Int32) (M : zM), fs_fill_5 sh x0 x1 n x2 x3 M = some (v, MO) → zA l yJ7_fill_53178 cJ7_fill_53178 4 none 1 0 0 sh.length (zDv sh MO) 0 0 5 [(0, .ref x0), (1, .int x1), (2, .int x2), (3, .int x3)] [] sh M := by
  intro n
  induction n with
  | zero =>
    intro x2 x3 M hf
    rw [fs_fill_5] at hf
    cases hf
  | succ n ih =>
    intro x2 x3 M hf
    rw [fs_fill_5] at hf
    refine z_iload_n dJ7_fill_53178_5 rfl rfl ?_
    refine z_iload_n dJ7_fill_53178_6 rfl rfl ?_
    refine z_icmp_ge (tgt := 20) dJ7_fill_53178_7 (by decide) (fun q_1 => ?_) (fun q_1 => ?_)
    · have hf := (if_pos q_1).symm.trans hf
      obtain ⟨rfl, rfl⟩ := z_end hf
      exact z_vret ⟨rfl, rfl, rfl⟩ rfl dJ7_fill_53178_20
    · have hf := (if_neg q_1).symm.trans hf
      refine z_aload_n dJ7_fill_53178_10 rfl rfl ?_
      refine z_iload_n dJ7_fill_53178_11 rfl rfl ?_
      refine z_iload_n dJ7_fill_53178_12 rfl rfl ?_
      obtain ⟨g_2, hf⟩ := z_ifs hf
      obtain ⟨M_3, eM_3, hf⟩ := zl_some hf
      refine z_iast h0 g_2 eM_3 dJ7_fill_53178_13 ?_
      obtain ⟨x2_4, ex2_4, hf⟩ := zl_some hf
      refine z_iinc' (lv' := [(2, .int x2_4), (0, .ref x0), (1, .int x1), (3, .int x3)]) dJ7_fill_53178_14 rfl (by decide) ex2_4 (by decide) rfl ?_
      refine z_goto (tgt := 5) dJ7_fill_53178_17 (by decide) ?_
      refine zA.pick [(0, .ref x0), (1, .int x1), (2, .int x2_4), (3, .int x3)] [1, 2, 0, 3] rfl ?_
      exact ih x2_4 x3 M_3 hf
noncomputable def fs_fill (sh : List zC) (x0 : Nat) (x1 : Int32) (M : zM) : Option (Unit × zM) :=
  zl ((Int32.ofNat (z_ln sh x0))) fun x3_1 => (fs_fill_5 sh x0 x1 zF 0 x3_1 M)
set_option maxHeartbeats 2000000 in
set_option maxRecDepth 20000 in
theorem ts_fill {sh : List zC} {l : Launch} {x0 : Nat} {x1 : Int32} {M MO : zM} {v : Unit} (h0 : z_tm sh 100 x0) (hf : fs_fill sh x0 x1 M = some (v, MO)) : zMet l yJ7_fill_53178 cJ7_fill_53178 4 none 1 0 0 [.ref x0, .int x1] sh M (zDv sh MO) := by
  refine zMet.of (by decide +kernel) (Nat.le_of_ble_eq_true rfl) (Or.inl rfl) ?_
  show zA l yJ7_fill_53178 cJ7_fill_53178 4 none 1 0 0 sh.length (zDv sh MO) 0 0 0 [(0, .ref x0), (1, .int x1)] [] sh M
  unfold fs_fill at hf
  refine z_iconst (v := 0) dJ7_fill_53178_0 (by decide) ?_
  refine z_istore_n' (lv' := [(2, .int 0), (0, .ref x0), (1, .int x1)]) rfl dJ7_fill_53178_1 (by decide) rfl rfl ?_
  refine z_aload_n dJ7_fill_53178_2 rfl rfl ?_
  refine z_alen h0 rfl dJ7_fill_53178_3 ?_
  obtain ⟨x3_1, ex3_1, hf⟩ := zl_some hf
  refine z_istore_n' (lv' := [(3, .int x3_1), (2, .int 0), (0, .ref x0), (1, .int x1)]) rfl dJ7_fill_53178_4 (by decide) ex3_1 rfl ?_
  refine zA.pick [(0, .ref x0), (1, .int x1), (2, .int 0), (3, .int x3_1)] [2, 3, 1, 0] rfl ?_
  exact ts_fill_5 h0 zF 0 x3_1 M hf
theorem cl_X11_9 : Cond.classLink RX11 9 (z_C 9) ∈ z_tbl := z_mem (List.mem_of_getElem? (i := 119) (by decide +kernel)) (by decide +kernel)
theorem in_9 : Cond.instantiable (z_C 9) (z_N 9) ∈ z_tbl := z_mem (List.mem_of_getElem? (i := 120) (by decide +kernel)) (by decide +kernel)
theorem ii_9 : Cond.initialized (z_C 9) ∈ z_tbl := z_mem (List.mem_of_getElem? (i := 95) (by decide +kernel)) (by decide +kernel)
theorem ac_0 : Cond.arrayClass .int ∈ z_tbl := z_mem (List.mem_of_getElem? (i := 146) (by decide +kernel)) (by decide +kernel)
noncomputable def fc_X10_init_2 (M : zM) : Option (Unit × zM) :=
  zl (z_al M 2) fun M_1 => zl (M_1.1, zu M_1.2.1 1 0 (some 2), M_1.2.2) fun M_2 => some ((), M_2)
set_option maxHeartbeats 2000000 in
set_option maxRecDepth 20000 in
theorem tc_X10_init_2 {l : Launch} {M MO : zM} {v : Unit} (hf : fc_X10_init_2 M = some (v, MO)) : zMet l yX10_init cX10_init 1 none 6 1 260 [.ref 1] (SH.take 2) M (zDv (SH.take 3) MO) := by
  refine zMet.of (by decide +kernel) (Nat.le_of_ble_eq_true rfl) (Or.inl rfl) ?_
  show zA l yX10_init cX10_init 1 none 6 1 260 2 (zDv (SH.take 3) MO) 0 0 0 [(0, .ref 1)] [] (SH.take 2) M
  unfold fc_X10_init_2 at hf
  refine z_aload_n dX10_init_0 rfl rfl ?_
  refine z_objInit oi_X10_3 oi_ins oi_cod (by decide) (Nat.le_of_ble_eq_true rfl) dX10_init_1 ?_
  refine z_aload_n dX10_init_4 rfl rfl ?_
  refine z_sipush (v := 260) dX10_init_5 (by decide) ?_
  obtain ⟨M_1, eM_1, hf⟩ := zl_some hf
  refine z_newa0 (N := 260) (n := 2) (sh1 := (SH.take 3)) ac_0 (by decide) (by decide) (Nat.le_of_ble_eq_true rfl) rfl rfl eM_1 ⟨by decide, by decide⟩ dX10_init_8 ?_
  obtain ⟨M_2, eM_2, hf⟩ := zl_some hf
  refine z_putF fl_X10_9 rfl rfl rfl rfl (Or.inr ⟨_, rfl⟩) (Or.inr ⟨by decide, _, rfl⟩) eM_2 dX10_init_10 ?_
  obtain ⟨rfl, rfl⟩ := z_end hf
  exact z_vret ⟨rfl, rfl, rfl⟩ rfl dX10_init_13
theorem cl_X11_16 : Cond.classLink RX11 16 (z_C 8) ∈ z_tbl := z_mem (List.mem_of_getElem? (i := 147) (by decide +kernel)) (by decide +kernel)
theorem in_8 : Cond.instantiable (z_C 8) (z_N 8) ∈ z_tbl := z_mem (List.mem_of_getElem? (i := 148) (by decide +kernel)) (by decide +kernel)
theorem ii_8 : Cond.initialized (z_C 8) ∈ z_tbl := z_mem (List.mem_of_getElem? (i := 96) (by decide +kernel)) (by decide +kernel)
noncomputable def fc_X8_init_4 (M : zM) : Option (Unit × zM) :=
  zl (z_al M 4) fun M_1 => zl (M_1.1, zu M_1.2.1 3 0 (some 4), M_1.2.2) fun M_2 => zl (z_al M_2 5) fun M_3 => zl (M_3.1, zu M_3.2.1 3 1 (some 5), M_3.2.2) fun M_4 => if M_4.2.1 3 1 = some 5 then z_call (fs_fill (SH.take 6) 5 1 M_4) fun v_6 M_7 => zl (z_al M_7 6) fun M_9 => zl (M_9.1, zu M_9.2.1 3 2 (some 6), M_9.2.2) fun M_10 => zl (z_al M_10 7) fun M_11 => zl (M_11.1, zu M_11.2.1 3 3 (some 7), M_11.2.2) fun M_12 => zl (z_al M_12 8) fun M_13 => zl (M_13.1, zu M_13.2.1 3 4 (some 8), M_13.2.2) fun M_14 => zl (zu M_14.1 3 6 16777215, M_14.2) fun M_15 => zl (zu M_15.1 3 9 1, M_15.2) fun M_16 => some ((), M_16) else none
set_option maxHeartbeats 2000000 in
set_option maxRecDepth 20000 in
theorem tc_X8_init_4 {l : Launch} {M MO : zM} {v : Unit} (hf : fc_X8_init_4 M = some (v, MO)) : zMet l yX8_init cX8_init 1 none 6 5 672 [.ref 3] (SH.take 4) M (zDv (SH.take 9) MO) := by
  refine zMet.of (by decide +kernel) (Nat.le_of_ble_eq_true rfl) (Or.inl rfl) ?_
  show zA l yX8_init cX8_init 1 none 6 5 672 4 (zDv (SH.take 9) MO) 0 0 0 [(0, .ref 3)] [] (SH.take 4) M
  unfold fc_X8_init_4 at hf
  refine z_aload_n dX8_init_0 rfl rfl ?_
  refine z_objInit oi_X8_3 oi_ins oi_cod (by decide) (Nat.le_of_ble_eq_true rfl) dX8_init_1 ?_
  refine z_aload_n dX8_init_4 rfl rfl ?_
  refine z_bipush (v := 24) dX8_init_5 (by decide) ?_
  obtain ⟨M_1, eM_1, hf⟩ := zl_some hf
  refine z_newa0 (N := 24) (n := 4) (sh1 := (SH.take 5)) ac_0 (by decide) (by decide) (Nat.le_of_ble_eq_true rfl) rfl rfl eM_1 ⟨by decide, by decide⟩ dX8_init_7 ?_
  obtain ⟨M_2, eM_2, hf⟩ := zl_some hf
  refine z_putF fl_X8_9 rfl rfl rfl rfl (Or.inr ⟨_, rfl⟩) (Or.inr ⟨by decide, _, rfl⟩) eM_2 dX8_init_9 ?_
  refine z_aload_n dX8_init_12 rfl rfl ?_
  refine z_bipush (v := 24) dX8_init_13 (by decide) ?_
  obtain ⟨M_3, eM_3, hf⟩ := zl_some hf
  refine z_newa0 (N := 24) (n := 5) (sh1 := (SH.take 6)) ac_0 (by decide) (by decide) (Nat.le_of_ble_eq_true rfl) rfl rfl eM_3 ⟨by decide, by decide⟩ dX8_init_15 ?_
  obtain ⟨M_4, eM_4, hf⟩ := zl_some hf
  refine z_putF fl_X8_15 rfl rfl rfl rfl (Or.inr ⟨_, rfl⟩) (Or.inr ⟨by decide, _, rfl⟩) eM_4 dX8_init_17 ?_
  refine z_aload_n dX8_init_20 rfl rfl ?_
  obtain ⟨g_5, hf⟩ := z_ifs hf
  refine zgR fl_X8_15 (Or.inl ⟨by decide, rfl⟩) (fun _ => rfl) g_5 dX8_init_21 (fun _ => ?_)
  refine z_iconst (v := 1) dX8_init_24 (by decide) ?_
  obtain ⟨v_6, M_7, c_8, hf⟩ := z_call_some hf
  refine z_cSv (ts_fill (Or.inr ⟨by decide, _, rfl⟩) c_8) kw_J7_fill_53178 lk_X8_18 rfl (by decide) rfl (Nat.le_of_ble_eq_true rfl) ⟨by decide, by decide⟩ dX8_init_25 ?_
  refine z_aload_n dX8_init_28 rfl rfl ?_
  refine z_bipush (v := 24) dX8_init_29 (by decide) ?_
  obtain ⟨M_9, eM_9, hf⟩ := zl_some hf
  refine z_newa0 (N := 24) (n := 6) (sh1 := (SH.take 7)) ac_0 (by decide) (by decide) (Nat.le_of_ble_eq_true rfl) rfl rfl eM_9 ⟨by decide, by decide⟩ dX8_init_31 ?_
  obtain ⟨M_10, eM_10, hf⟩ := zl_some hf
  refine z_putF fl_X8_24 rfl rfl rfl rfl (Or.inr ⟨_, rfl⟩) (Or.inr ⟨by decide, _, rfl⟩) eM_10 dX8_init_33 ?_
  refine z_aload_n dX8_init_36 rfl rfl ?_
  refine z_sipush (v := 576) dX8_init_37 (by decide) ?_
  obtain ⟨M_11, eM_11, hf⟩ := zl_some hf
  refine z_newa0 (N := 576) (n := 7) (sh1 := (SH.take 8)) ac_0 (by decide) (by decide) (Nat.le_of_ble_eq_true rfl) rfl rfl eM_11 ⟨by decide, by decide⟩ dX8_init_40 ?_
  obtain ⟨M_12, eM_12, hf⟩ := zl_some hf
  refine z_putF fl_X8_27 rfl rfl rfl rfl (Or.inr ⟨_, rfl⟩) (Or.inr ⟨by decide, _, rfl⟩) eM_12 dX8_init_42 ?_
  refine z_aload_n dX8_init_45 rfl rfl ?_
  refine z_bipush (v := 24) dX8_init_46 (by decide) ?_
  obtain ⟨M_13, eM_13, hf⟩ := zl_some hf
  refine z_newa0 (N := 24) (n := 8) (sh1 := (SH.take 9)) ac_0 (by decide) (by decide) (Nat.le_of_ble_eq_true rfl) rfl rfl eM_13 ⟨by decide, by decide⟩ dX8_init_48 ?_
  obtain ⟨M_14, eM_14, hf⟩ := zl_some hf
  refine z_putF fl_X8_30 rfl rfl rfl rfl (Or.inr ⟨_, rfl⟩) (Or.inr ⟨by decide, _, rfl⟩) eM_14 dX8_init_50 ?_
  refine z_aload_n dX8_init_53 rfl rfl ?_
  refine z_ldc (v := 16777215) dX8_init_54 cn_X8_33 ?_
  obtain ⟨M_15, eM_15, hf⟩ := zl_some hf
  refine zpI fl_X8_34 (Or.inl ⟨by decide, rfl⟩) rfl (Or.inl rfl) eM_15 dX8_init_56 ?_
  refine z_aload_n dX8_init_59 rfl rfl ?_
  refine z_iconst (v := 1) dX8_init_60 (by decide) ?_
  obtain ⟨M_16, eM_16, hf⟩ := zl_some hf
  refine zpI fl_X8_38 (Or.inl ⟨by decide, rfl⟩) rfl (Or.inl rfl) eM_16 dX8_init_61 ?_
  obtain ⟨rfl, rfl⟩ := z_end hf
  exact z_vret ⟨rfl, rfl, rfl⟩ rfl dX8_init_64
noncomputable def fc_X8_init_10 (M : zM) : Option (Unit × zM) :=
  zl (z_al M 10) fun M_1 => zl (M_1.1, zu M_1.2.1 9 0 (some 10), M_1.2.2) fun M_2 => zl (z_al M_2 11) fun M_3 => zl (M_3.1, zu M_3.2.1 9 1 (some 11), M_3.2.2) fun M_4 => if M_4.2.1 9 1 = some 11 then z_call (fs_fill (SH.take 12) 11 1 M_4) fun v_6 M_7 => zl (z_al M_7 12) fun M_9 => zl (M_9.1, zu M_9.2.1 9 2 (some 12), M_9.2.2) fun M_10 => zl (z_al M_10 13) fun M_11 => zl (M_11.1, zu M_11.2.1 9 3 (some 13), M_11.2.2) fun M_12 => zl (z_al M_12 14) fun M_13 => zl (M_13.1, zu M_13.2.1 9 4 (some 14), M_13.2.2) fun M_14 => zl (zu M_14.1 9 6 16777215, M_14.2) fun M_15 => zl (zu M_15.1 9 9 1, M_15.2) fun M_16 => some ((), M_16) else none
set_option maxHeartbeats 2000000 in
set_option maxRecDepth 20000 in
theorem tc_X8_init_10 {l : Launch} {M MO : zM} {v : Unit} (hf : fc_X8_init_10 M = some (v, MO)) : zMet l yX8_init cX8_init 1 none 6 5 672 [.ref 9] (SH.take 10) M (zDv (SH.take 15) MO) := by
  refine zMet.of (by decide +kernel) (Nat.le_of_ble_eq_true rfl) (Or.inl rfl) ?_
  show zA l yX8_init cX8_init 1 none 6 5 672 10 (zDv (SH.take 15) MO) 0 0 0 [(0, .ref 9)] [] (SH.take 10) M
  unfold fc_X8_init_10 at hf
  refine z_aload_n dX8_init_0 rfl rfl ?_
  refine z_objInit oi_X8_3 oi_ins oi_cod (by decide) (Nat.le_of_ble_eq_true rfl) dX8_init_1 ?_
  refine z_aload_n dX8_init_4 rfl rfl ?_
  refine z_bipush (v := 24) dX8_init_5 (by decide) ?_
  obtain ⟨M_1, eM_1, hf⟩ := zl_some hf
  refine z_newa0 (N := 24) (n := 10) (sh1 := (SH.take 11)) ac_0 (by decide) (by decide) (Nat.le_of_ble_eq_true rfl) rfl rfl eM_1 ⟨by decide, by decide⟩ dX8_init_7 ?_
  obtain ⟨M_2, eM_2, hf⟩ := zl_some hf
  refine z_putF fl_X8_9 rfl rfl rfl rfl (Or.inr ⟨_, rfl⟩) (Or.inr ⟨by decide, _, rfl⟩) eM_2 dX8_init_9 ?_
  refine z_aload_n dX8_init_12 rfl rfl ?_
  refine z_bipush (v := 24) dX8_init_13 (by decide) ?_
  obtain ⟨M_3, eM_3, hf⟩ := zl_some hf
  refine z_newa0 (N := 24) (n := 11) (sh1 := (SH.take 12)) ac_0 (by decide) (by decide) (Nat.le_of_ble_eq_true rfl) rfl rfl eM_3 ⟨by decide, by decide⟩ dX8_init_15 ?_
  obtain ⟨M_4, eM_4, hf⟩ := zl_some hf
  refine z_putF fl_X8_15 rfl rfl rfl rfl (Or.inr ⟨_, rfl⟩) (Or.inr ⟨by decide, _, rfl⟩) eM_4 dX8_init_17 ?_
  refine z_aload_n dX8_init_20 rfl rfl ?_
  obtain ⟨g_5, hf⟩ := z_ifs hf
  refine zgR fl_X8_15 (Or.inl ⟨by decide, rfl⟩) (fun _ => rfl) g_5 dX8_init_21 (fun _ => ?_)
  refine z_iconst (v := 1) dX8_init_24 (by decide) ?_
  obtain ⟨v_6, M_7, c_8, hf⟩ := z_call_some hf
  refine z_cSv (ts_fill (Or.inr ⟨by decide, _, rfl⟩) c_8) kw_J7_fill_53178 lk_X8_18 rfl (by decide) rfl (Nat.le_of_ble_eq_true rfl) ⟨by decide, by decide⟩ dX8_init_25 ?_
  refine z_aload_n dX8_init_28 rfl rfl ?_
  refine z_bipush (v := 24) dX8_init_29 (by decide) ?_
  obtain ⟨M_9, eM_9, hf⟩ := zl_some hf
  refine z_newa0 (N := 24) (n := 12) (sh1 := (SH.take 13)) ac_0 (by decide) (by decide) (Nat.le_of_ble_eq_true rfl) rfl rfl eM_9 ⟨by decide, by decide⟩ dX8_init_31 ?_
  obtain ⟨M_10, eM_10, hf⟩ := zl_some hf
  refine z_putF fl_X8_24 rfl rfl rfl rfl (Or.inr ⟨_, rfl⟩) (Or.inr ⟨by decide, _, rfl⟩) eM_10 dX8_init_33 ?_
  refine z_aload_n dX8_init_36 rfl rfl ?_
  refine z_sipush (v := 576) dX8_init_37 (by decide) ?_
  obtain ⟨M_11, eM_11, hf⟩ := zl_some hf
  refine z_newa0 (N := 576) (n := 13) (sh1 := (SH.take 14)) ac_0 (by decide) (by decide) (Nat.le_of_ble_eq_true rfl) rfl rfl eM_11 ⟨by decide, by decide⟩ dX8_init_40 ?_
  obtain ⟨M_12, eM_12, hf⟩ := zl_some hf
  refine z_putF fl_X8_27 rfl rfl rfl rfl (Or.inr ⟨_, rfl⟩) (Or.inr ⟨by decide, _, rfl⟩) eM_12 dX8_init_42 ?_
  refine z_aload_n dX8_init_45 rfl rfl ?_
  refine z_bipush (v := 24) dX8_init_46 (by decide) ?_
  obtain ⟨M_13, eM_13, hf⟩ := zl_some hf
  refine z_newa0 (N := 24) (n := 14) (sh1 := (SH.take 15)) ac_0 (by decide) (by decide) (Nat.le_of_ble_eq_true rfl) rfl rfl eM_13 ⟨by decide, by decide⟩ dX8_init_48 ?_
  obtain ⟨M_14, eM_14, hf⟩ := zl_some hf
  refine z_putF fl_X8_30 rfl rfl rfl rfl (Or.inr ⟨_, rfl⟩) (Or.inr ⟨by decide, _, rfl⟩) eM_14 dX8_init_50 ?_
  refine z_aload_n dX8_init_53 rfl rfl ?_
  refine z_ldc (v := 16777215) dX8_init_54 cn_X8_33 ?_
  obtain ⟨M_15, eM_15, hf⟩ := zl_some hf
  refine zpI fl_X8_34 (Or.inl ⟨by decide, rfl⟩) rfl (Or.inl rfl) eM_15 dX8_init_56 ?_
  refine z_aload_n dX8_init_59 rfl rfl ?_
  refine z_iconst (v := 1) dX8_init_60 (by decide) ?_
  obtain ⟨M_16, eM_16, hf⟩ := zl_some hf
  refine zpI fl_X8_38 (Or.inl ⟨by decide, rfl⟩) rfl (Or.inl rfl) eM_16 dX8_init_61 ?_
  obtain ⟨rfl, rfl⟩ := z_end hf
  exact z_vret ⟨rfl, rfl, rfl⟩ rfl dX8_init_64
noncomputable def fc_X8_init_16 (M : zM) : Option (Unit × zM) :=
  zl (z_al M 16) fun M_1 => zl (M_1.1, zu M_1.2.1 15 0 (some 16), M_1.2.2) fun M_2 => zl (z_al M_2 17) fun M_3 => zl (M_3.1, zu M_3.2.1 15 1 (some 17), M_3.2.2) fun M_4 => if M_4.2.1 15 1 = some 17 then z_call (fs_fill (SH.take 18) 17 1 M_4) fun v_6 M_7 => zl (z_al M_7 18) fun M_9 => zl (M_9.1, zu M_9.2.1 15 2 (some 18), M_9.2.2) fun M_10 => zl (z_al M_10 19) fun M_11 => zl (M_11.1, zu M_11.2.1 15 3 (some 19), M_11.2.2) fun M_12 => zl (z_al M_12 20) fun M_13 => zl (M_13.1, zu M_13.2.1 15 4 (some 20), M_13.2.2) fun M_14 => zl (zu M_14.1 15 6 16777215, M_14.2) fun M_15 => zl (zu M_15.1 15 9 1, M_15.2) fun M_16 => some ((), M_16) else none
set_option maxHeartbeats 2000000 in
set_option maxRecDepth 20000 in
theorem tc_X8_init_16 {l : Launch} {M MO : zM} {v : Unit} (hf : fc_X8_init_16 M = some (v, MO)) : zMet l yX8_init cX8_init 1 none 6 5 672 [.ref 15] (SH.take 16) M (zDv (SH.take 21) MO) := by
  refine zMet.of (by decide +kernel) (Nat.le_of_ble_eq_true rfl) (Or.inl rfl) ?_
  show zA l yX8_init cX8_init 1 none 6 5 672 16 (zDv (SH.take 21) MO) 0 0 0 [(0, .ref 15)] [] (SH.take 16) M
  unfold fc_X8_init_16 at hf
  refine z_aload_n dX8_init_0 rfl rfl ?_
  refine z_objInit oi_X8_3 oi_ins oi_cod (by decide) (Nat.le_of_ble_eq_true rfl) dX8_init_1 ?_
  refine z_aload_n dX8_init_4 rfl rfl ?_
  refine z_bipush (v := 24) dX8_init_5 (by decide) ?_
  obtain ⟨M_1, eM_1, hf⟩ := zl_some hf
  refine z_newa0 (N := 24) (n := 16) (sh1 := (SH.take 17)) ac_0 (by decide) (by decide) (Nat.le_of_ble_eq_true rfl) rfl rfl eM_1 ⟨by decide, by decide⟩ dX8_init_7 ?_
  obtain ⟨M_2, eM_2, hf⟩ := zl_some hf
  refine z_putF fl_X8_9 rfl rfl rfl rfl (Or.inr ⟨_, rfl⟩) (Or.inr ⟨by decide, _, rfl⟩) eM_2 dX8_init_9 ?_
  refine z_aload_n dX8_init_12 rfl rfl ?_
  refine z_bipush (v := 24) dX8_init_13 (by decide) ?_
  obtain ⟨M_3, eM_3, hf⟩ := zl_some hf
  refine z_newa0 (N := 24) (n := 17) (sh1 := (SH.take 18)) ac_0 (by decide) (by decide) (Nat.le_of_ble_eq_true rfl) rfl rfl eM_3 ⟨by decide, by decide⟩ dX8_init_15 ?_
  obtain ⟨M_4, eM_4, hf⟩ := zl_some hf
  refine z_putF fl_X8_15 rfl rfl rfl rfl (Or.inr ⟨_, rfl⟩) (Or.inr ⟨by decide, _, rfl⟩) eM_4 dX8_init_17 ?_
  refine z_aload_n dX8_init_20 rfl rfl ?_
  obtain ⟨g_5, hf⟩ := z_ifs hf
  refine zgR fl_X8_15 (Or.inl ⟨by decide, rfl⟩) (fun _ => rfl) g_5 dX8_init_21 (fun _ => ?_)
  refine z_iconst (v := 1) dX8_init_24 (by decide) ?_
  obtain ⟨v_6, M_7, c_8, hf⟩ := z_call_some hf
  refine z_cSv (ts_fill (Or.inr ⟨by decide, _, rfl⟩) c_8) kw_J7_fill_53178 lk_X8_18 rfl (by decide) rfl (Nat.le_of_ble_eq_true rfl) ⟨by decide, by decide⟩ dX8_init_25 ?_
  refine z_aload_n dX8_init_28 rfl rfl ?_
  refine z_bipush (v := 24) dX8_init_29 (by decide) ?_
  obtain ⟨M_9, eM_9, hf⟩ := zl_some hf
  refine z_newa0 (N := 24) (n := 18) (sh1 := (SH.take 19)) ac_0 (by decide) (by decide) (Nat.le_of_ble_eq_true rfl) rfl rfl eM_9 ⟨by decide, by decide⟩ dX8_init_31 ?_
  obtain ⟨M_10, eM_10, hf⟩ := zl_some hf
  refine z_putF fl_X8_24 rfl rfl rfl rfl (Or.inr ⟨_, rfl⟩) (Or.inr ⟨by decide, _, rfl⟩) eM_10 dX8_init_33 ?_
  refine z_aload_n dX8_init_36 rfl rfl ?_
  refine z_sipush (v := 576) dX8_init_37 (by decide) ?_
  obtain ⟨M_11, eM_11, hf⟩ := zl_some hf
  refine z_newa0 (N := 576) (n := 19) (sh1 := (SH.take 20)) ac_0 (by decide) (by decide) (Nat.le_of_ble_eq_true rfl) rfl rfl eM_11 ⟨by decide, by decide⟩ dX8_init_40 ?_
  obtain ⟨M_12, eM_12, hf⟩ := zl_some hf
  refine z_putF fl_X8_27 rfl rfl rfl rfl (Or.inr ⟨_, rfl⟩) (Or.inr ⟨by decide, _, rfl⟩) eM_12 dX8_init_42 ?_
  refine z_aload_n dX8_init_45 rfl rfl ?_
  refine z_bipush (v := 24) dX8_init_46 (by decide) ?_
  obtain ⟨M_13, eM_13, hf⟩ := zl_some hf
  refine z_newa0 (N := 24) (n := 20) (sh1 := (SH.take 21)) ac_0 (by decide) (by decide) (Nat.le_of_ble_eq_true rfl) rfl rfl eM_13 ⟨by decide, by decide⟩ dX8_init_48 ?_
  obtain ⟨M_14, eM_14, hf⟩ := zl_some hf
  refine z_putF fl_X8_30 rfl rfl rfl rfl (Or.inr ⟨_, rfl⟩) (Or.inr ⟨by decide, _, rfl⟩) eM_14 dX8_init_50 ?_
  refine z_aload_n dX8_init_53 rfl rfl ?_
  refine z_ldc (v := 16777215) dX8_init_54 cn_X8_33 ?_
  obtain ⟨M_15, eM_15, hf⟩ := zl_some hf
  refine zpI fl_X8_34 (Or.inl ⟨by decide, rfl⟩) rfl (Or.inl rfl) eM_15 dX8_init_56 ?_
  refine z_aload_n dX8_init_59 rfl rfl ?_
  refine z_iconst (v := 1) dX8_init_60 (by decide) ?_
  obtain ⟨M_16, eM_16, hf⟩ := zl_some hf
  refine zpI fl_X8_38 (Or.inl ⟨by decide, rfl⟩) rfl (Or.inl rfl) eM_16 dX8_init_61 ?_
  obtain ⟨rfl, rfl⟩ := z_end hf
  exact z_vret ⟨rfl, rfl, rfl⟩ rfl dX8_init_64
theorem cl_X11_29 : Cond.classLink RX11 29 (z_C 4) ∈ z_tbl := z_mem (List.mem_of_getElem? (i := 206) (by decide +kernel)) (by decide +kernel)
theorem in_4 : Cond.instantiable (z_C 4) (z_N 4) ∈ z_tbl := z_mem (List.mem_of_getElem? (i := 207) (by decide +kernel)) (by decide +kernel)
theorem ii_4 : Cond.initialized (z_C 4) ∈ z_tbl := z_mem (List.mem_of_getElem? (i := 98) (by decide +kernel)) (by decide +kernel)
noncomputable def fc_X4_init_22 (M : zM) : Option (Unit × zM) :=
  zl (z_al M 22) fun M_1 => zl (M_1.1, zu M_1.2.1 21 0 (some 22), M_1.2.2) fun M_2 => zl (z_al M_2 23) fun M_3 => zl (M_3.1, zu M_3.2.1 21 1 (some 23), M_3.2.2) fun M_4 => zl (z_al M_4 24) fun M_5 => zl (M_5.1, zu M_5.2.1 21 2 (some 24), M_5.2.2) fun M_6 => zl (z_al M_6 25) fun M_7 => zl (M_7.1, zu M_7.2.1 21 3 (some 25), M_7.2.2) fun M_8 => zl (z_al M_8 26) fun M_9 => zl (M_9.1, zu M_9.2.1 21 4 (some 26), M_9.2.2) fun M_10 => zl (z_al M_10 27) fun M_11 => zl (M_11.1, zu M_11.2.1 21 5 (some 27), M_11.2.2) fun M_12 => zl (z_al M_12 28) fun M_13 => zl (M_13.1, zu M_13.2.1 21 8 (some 28), M_13.2.2) fun M_14 => zl (M_14.1, zu M_14.2.1 21 12 (some 3), M_14.2.2) fun M_15 => some ((), M_15)
set_option maxHeartbeats 2000000 in
set_option maxRecDepth 20000 in
theorem tc_X4_init_22 {l : Launch} {M MO : zM} {v : Unit} (hf : fc_X4_init_22 M = some (v, MO)) : zMet l yX4_init cX4_init 2 none 6 7 559 [.ref 21, .ref 3] (SH.take 22) M (zDv (SH.take 29) MO) := by
  refine zMet.of (by decide +kernel) (Nat.le_of_ble_eq_true rfl) (Or.inl rfl) ?_
  show zA l yX4_init cX4_init 2 none 6 7 559 22 (zDv (SH.take 29) MO) 0 0 0 [(0, .ref 21), (1, .ref 3)] [] (SH.take 22) M
  unfold fc_X4_init_22 at hf
  refine z_aload_n dX4_init_0 rfl rfl ?_
  refine z_objInit oi_X4_3 oi_ins oi_cod (by decide) (Nat.le_of_ble_eq_true rfl) dX4_init_1 ?_
  refine z_aload_n dX4_init_4 rfl rfl ?_
  refine z_sipush (v := 240) dX4_init_5 (by decide) ?_
  obtain ⟨M_1, eM_1, hf⟩ := zl_some hf
  refine z_newa0 (N := 240) (n := 22) (sh1 := (SH.take 23)) ac_0 (by decide) (by decide) (Nat.le_of_ble_eq_true rfl) rfl rfl eM_1 ⟨by decide, by decide⟩ dX4_init_8 ?_
  obtain ⟨M_2, eM_2, hf⟩ := zl_some hf
  refine z_putF fl_X4_9 rfl rfl rfl rfl (Or.inr ⟨_, rfl⟩) (Or.inr ⟨by decide, _, rfl⟩) eM_2 dX4_init_10 ?_
  refine z_aload_n dX4_init_13 rfl rfl ?_
  refine z_sipush (v := 240) dX4_init_14 (by decide) ?_
  obtain ⟨M_3, eM_3, hf⟩ := zl_some hf
  refine z_newa0 (N := 240) (n := 23) (sh1 := (SH.take 24)) ac_0 (by decide) (by decide) (Nat.le_of_ble_eq_true rfl) rfl rfl eM_3 ⟨by decide, by decide⟩ dX4_init_17 ?_
  obtain ⟨M_4, eM_4, hf⟩ := zl_some hf
  refine z_putF fl_X4_15 rfl rfl rfl rfl (Or.inr ⟨_, rfl⟩) (Or.inr ⟨by decide, _, rfl⟩) eM_4 dX4_init_19 ?_
  refine z_aload_n dX4_init_22 rfl rfl ?_
  refine z_bipush (v := 16) dX4_init_23 (by decide) ?_
  obtain ⟨M_5, eM_5, hf⟩ := zl_some hf
  refine z_newa0 (N := 16) (n := 24) (sh1 := (SH.take 25)) ac_0 (by decide) (by decide) (Nat.le_of_ble_eq_true rfl) rfl rfl eM_5 ⟨by decide, by decide⟩ dX4_init_25 ?_
  obtain ⟨M_6, eM_6, hf⟩ := zl_some hf
  refine z_putF fl_X4_18 rfl rfl rfl rfl (Or.inr ⟨_, rfl⟩) (Or.inr ⟨by decide, _, rfl⟩) eM_6 dX4_init_27 ?_
  refine z_aload_n dX4_init_30 rfl rfl ?_
  refine z_bipush (v := 16) dX4_init_31 (by decide) ?_
  obtain ⟨M_7, eM_7, hf⟩ := zl_some hf
  refine z_newa0 (N := 16) (n := 25) (sh1 := (SH.take 26)) ac_0 (by decide) (by decide) (Nat.le_of_ble_eq_true rfl) rfl rfl eM_7 ⟨by decide, by decide⟩ dX4_init_33 ?_
  obtain ⟨M_8, eM_8, hf⟩ := zl_some hf
  refine z_putF fl_X4_21 rfl rfl rfl rfl (Or.inr ⟨_, rfl⟩) (Or.inr ⟨by decide, _, rfl⟩) eM_8 dX4_init_35 ?_
  refine z_aload_n dX4_init_38 rfl rfl ?_
  refine z_bipush (v := 16) dX4_init_39 (by decide) ?_
  obtain ⟨M_9, eM_9, hf⟩ := zl_some hf
  refine z_newa0 (N := 16) (n := 26) (sh1 := (SH.take 27)) ac_0 (by decide) (by decide) (Nat.le_of_ble_eq_true rfl) rfl rfl eM_9 ⟨by decide, by decide⟩ dX4_init_41 ?_
  obtain ⟨M_10, eM_10, hf⟩ := zl_some hf
  refine z_putF fl_X4_24 rfl rfl rfl rfl (Or.inr ⟨_, rfl⟩) (Or.inr ⟨by decide, _, rfl⟩) eM_10 dX4_init_43 ?_
  refine z_aload_n dX4_init_46 rfl rfl ?_
  refine z_bipush (v := 16) dX4_init_47 (by decide) ?_
  obtain ⟨M_11, eM_11, hf⟩ := zl_some hf
  refine z_newa0 (N := 16) (n := 27) (sh1 := (SH.take 28)) ac_0 (by decide) (by decide) (Nat.le_of_ble_eq_true rfl) rfl rfl eM_11 ⟨by decide, by decide⟩ dX4_init_49 ?_
  obtain ⟨M_12, eM_12, hf⟩ := zl_some hf
  refine z_putF fl_X4_27 rfl rfl rfl rfl (Or.inr ⟨_, rfl⟩) (Or.inr ⟨by decide, _, rfl⟩) eM_12 dX4_init_51 ?_
  refine z_aload_n dX4_init_54 rfl rfl ?_
  refine z_bipush (v := 15) dX4_init_55 (by decide) ?_
  obtain ⟨M_13, eM_13, hf⟩ := zl_some hf
  refine z_newa0 (N := 15) (n := 28) (sh1 := (SH.take 29)) ac_0 (by decide) (by decide) (Nat.le_of_ble_eq_true rfl) rfl rfl eM_13 ⟨by decide, by decide⟩ dX4_init_57 ?_
  obtain ⟨M_14, eM_14, hf⟩ := zl_some hf
  refine z_putF fl_X4_30 rfl rfl rfl rfl (Or.inr ⟨_, rfl⟩) (Or.inr ⟨by decide, _, rfl⟩) eM_14 dX4_init_59 ?_
  refine z_aload_n dX4_init_62 rfl rfl ?_
  refine z_aload_n dX4_init_63 rfl rfl ?_
  obtain ⟨M_15, eM_15, hf⟩ := zl_some hf
  refine zpR fl_X4_33 (Or.inl ⟨by decide, rfl⟩) rfl (Or.inl ⟨_, rfl⟩) (Or.inl ⟨by decide, rfl⟩) eM_15 dX4_init_64 ?_
  obtain ⟨rfl, rfl⟩ := z_end hf
  exact z_vret ⟨rfl, rfl, rfl⟩ rfl dX4_init_67
noncomputable def fc_X4_init_30 (M : zM) : Option (Unit × zM) :=
  zl (z_al M 30) fun M_1 => zl (M_1.1, zu M_1.2.1 29 0 (some 30), M_1.2.2) fun M_2 => zl (z_al M_2 31) fun M_3 => zl (M_3.1, zu M_3.2.1 29 1 (some 31), M_3.2.2) fun M_4 => zl (z_al M_4 32) fun M_5 => zl (M_5.1, zu M_5.2.1 29 2 (some 32), M_5.2.2) fun M_6 => zl (z_al M_6 33) fun M_7 => zl (M_7.1, zu M_7.2.1 29 3 (some 33), M_7.2.2) fun M_8 => zl (z_al M_8 34) fun M_9 => zl (M_9.1, zu M_9.2.1 29 4 (some 34), M_9.2.2) fun M_10 => zl (z_al M_10 35) fun M_11 => zl (M_11.1, zu M_11.2.1 29 5 (some 35), M_11.2.2) fun M_12 => zl (z_al M_12 36) fun M_13 => zl (M_13.1, zu M_13.2.1 29 8 (some 36), M_13.2.2) fun M_14 => zl (M_14.1, zu M_14.2.1 29 12 (some 3), M_14.2.2) fun M_15 => some ((), M_15)
set_option maxHeartbeats 2000000 in
set_option maxRecDepth 20000 in
theorem tc_X4_init_30 {l : Launch} {M MO : zM} {v : Unit} (hf : fc_X4_init_30 M = some (v, MO)) : zMet l yX4_init cX4_init 2 none 6 7 559 [.ref 29, .ref 3] (SH.take 30) M (zDv (SH.take 37) MO) := by
  refine zMet.of (by decide +kernel) (Nat.le_of_ble_eq_true rfl) (Or.inl rfl) ?_
  show zA l yX4_init cX4_init 2 none 6 7 559 30 (zDv (SH.take 37) MO) 0 0 0 [(0, .ref 29), (1, .ref 3)] [] (SH.take 30) M
  unfold fc_X4_init_30 at hf
  refine z_aload_n dX4_init_0 rfl rfl ?_
  refine z_objInit oi_X4_3 oi_ins oi_cod (by decide) (Nat.le_of_ble_eq_true rfl) dX4_init_1 ?_
  refine z_aload_n dX4_init_4 rfl rfl ?_
  refine z_sipush (v := 240) dX4_init_5 (by decide) ?_
  obtain ⟨M_1, eM_1, hf⟩ := zl_some hf
  refine z_newa0 (N := 240) (n := 30) (sh1 := (SH.take 31)) ac_0 (by decide) (by decide) (Nat.le_of_ble_eq_true rfl) rfl rfl eM_1 ⟨by decide, by decide⟩ dX4_init_8 ?_
  obtain ⟨M_2, eM_2, hf⟩ := zl_some hf
  refine z_putF fl_X4_9 rfl rfl rfl rfl (Or.inr ⟨_, rfl⟩) (Or.inr ⟨by decide, _, rfl⟩) eM_2 dX4_init_10 ?_
  refine z_aload_n dX4_init_13 rfl rfl ?_
  refine z_sipush (v := 240) dX4_init_14 (by decide) ?_
  obtain ⟨M_3, eM_3, hf⟩ := zl_some hf
  refine z_newa0 (N := 240) (n := 31) (sh1 := (SH.take 32)) ac_0 (by decide) (by decide) (Nat.le_of_ble_eq_true rfl) rfl rfl eM_3 ⟨by decide, by decide⟩ dX4_init_17 ?_
  obtain ⟨M_4, eM_4, hf⟩ := zl_some hf
  refine z_putF fl_X4_15 rfl rfl rfl rfl (Or.inr ⟨_, rfl⟩) (Or.inr ⟨by decide, _, rfl⟩) eM_4 dX4_init_19 ?_
  refine z_aload_n dX4_init_22 rfl rfl ?_
  refine z_bipush (v := 16) dX4_init_23 (by decide) ?_
  obtain ⟨M_5, eM_5, hf⟩ := zl_some hf
  refine z_newa0 (N := 16) (n := 32) (sh1 := (SH.take 33)) ac_0 (by decide) (by decide) (Nat.le_of_ble_eq_true rfl) rfl rfl eM_5 ⟨by decide, by decide⟩ dX4_init_25 ?_
  obtain ⟨M_6, eM_6, hf⟩ := zl_some hf
  refine z_putF fl_X4_18 rfl rfl rfl rfl (Or.inr ⟨_, rfl⟩) (Or.inr ⟨by decide, _, rfl⟩) eM_6 dX4_init_27 ?_
  refine z_aload_n dX4_init_30 rfl rfl ?_
  refine z_bipush (v := 16) dX4_init_31 (by decide) ?_
  obtain ⟨M_7, eM_7, hf⟩ := zl_some hf
  refine z_newa0 (N := 16) (n := 33) (sh1 := (SH.take 34)) ac_0 (by decide) (by decide) (Nat.le_of_ble_eq_true rfl) rfl rfl eM_7 ⟨by decide, by decide⟩ dX4_init_33 ?_
  obtain ⟨M_8, eM_8, hf⟩ := zl_some hf
  refine z_putF fl_X4_21 rfl rfl rfl rfl (Or.inr ⟨_, rfl⟩) (Or.inr ⟨by decide, _, rfl⟩) eM_8 dX4_init_35 ?_
  refine z_aload_n dX4_init_38 rfl rfl ?_
  refine z_bipush (v := 16) dX4_init_39 (by decide) ?_
  obtain ⟨M_9, eM_9, hf⟩ := zl_some hf
  refine z_newa0 (N := 16) (n := 34) (sh1 := (SH.take 35)) ac_0 (by decide) (by decide) (Nat.le_of_ble_eq_true rfl) rfl rfl eM_9 ⟨by decide, by decide⟩ dX4_init_41 ?_
  obtain ⟨M_10, eM_10, hf⟩ := zl_some hf
  refine z_putF fl_X4_24 rfl rfl rfl rfl (Or.inr ⟨_, rfl⟩) (Or.inr ⟨by decide, _, rfl⟩) eM_10 dX4_init_43 ?_
  refine z_aload_n dX4_init_46 rfl rfl ?_
  refine z_bipush (v := 16) dX4_init_47 (by decide) ?_
  obtain ⟨M_11, eM_11, hf⟩ := zl_some hf
  refine z_newa0 (N := 16) (n := 35) (sh1 := (SH.take 36)) ac_0 (by decide) (by decide) (Nat.le_of_ble_eq_true rfl) rfl rfl eM_11 ⟨by decide, by decide⟩ dX4_init_49 ?_
  obtain ⟨M_12, eM_12, hf⟩ := zl_some hf
  refine z_putF fl_X4_27 rfl rfl rfl rfl (Or.inr ⟨_, rfl⟩) (Or.inr ⟨by decide, _, rfl⟩) eM_12 dX4_init_51 ?_
  refine z_aload_n dX4_init_54 rfl rfl ?_
  refine z_bipush (v := 15) dX4_init_55 (by decide) ?_
  obtain ⟨M_13, eM_13, hf⟩ := zl_some hf
  refine z_newa0 (N := 15) (n := 36) (sh1 := (SH.take 37)) ac_0 (by decide) (by decide) (Nat.le_of_ble_eq_true rfl) rfl rfl eM_13 ⟨by decide, by decide⟩ dX4_init_57 ?_
  obtain ⟨M_14, eM_14, hf⟩ := zl_some hf
  refine z_putF fl_X4_30 rfl rfl rfl rfl (Or.inr ⟨_, rfl⟩) (Or.inr ⟨by decide, _, rfl⟩) eM_14 dX4_init_59 ?_
  refine z_aload_n dX4_init_62 rfl rfl ?_
  refine z_aload_n dX4_init_63 rfl rfl ?_
  obtain ⟨M_15, eM_15, hf⟩ := zl_some hf
  refine zpR fl_X4_33 (Or.inl ⟨by decide, rfl⟩) rfl (Or.inl ⟨_, rfl⟩) (Or.inl ⟨by decide, rfl⟩) eM_15 dX4_init_64 ?_
  obtain ⟨rfl, rfl⟩ := z_end hf
  exact z_vret ⟨rfl, rfl, rfl⟩ rfl dX4_init_67
theorem cl_X11_41 : Cond.classLink RX11 41 (z_C 0) ∈ z_tbl := z_mem (List.mem_of_getElem? (i := 264) (by decide +kernel)) (by decide +kernel)
theorem in_0 : Cond.instantiable (z_C 0) (z_N 0) ∈ z_tbl := z_mem (List.mem_of_getElem? (i := 265) (by decide +kernel)) (by decide +kernel)
theorem ii_0 : Cond.initialized (z_C 0) ∈ z_tbl := z_mem (List.mem_of_getElem? (i := 99) (by decide +kernel)) (by decide +kernel)
noncomputable def fc_X0_init_38 (M : zM) : Option (Unit × zM) :=
  zl (M.1, zu M.2.1 37 0 (some 3), M.2.2) fun M_1 => zl (M_1.1, zu M_1.2.1 37 1 (some 21), M_1.2.2) fun M_2 => some ((), M_2)
set_option maxHeartbeats 2000000 in
set_option maxRecDepth 20000 in
theorem tc_X0_init_38 {l : Launch} {M MO : zM} {v : Unit} (hf : fc_X0_init_38 M = some (v, MO)) : zMet l yX0_init cX0_init 3 none 6 0 0 [.ref 37, .ref 3, .ref 21] (SH.take 38) M (zDv (SH.take 38) MO) := by
  refine zMet.of (by decide +kernel) (Nat.le_of_ble_eq_true rfl) (Or.inl rfl) ?_
  show zA l yX0_init cX0_init 3 none 6 0 0 38 (zDv (SH.take 38) MO) 0 0 0 [(0, .ref 37), (1, .ref 3), (2, .ref 21)] [] (SH.take 38) M
  unfold fc_X0_init_38 at hf
  refine z_aload_n dX0_init_0 rfl rfl ?_
  refine z_objInit oi_X0_3 oi_ins oi_cod (by decide) (Nat.le_of_ble_eq_true rfl) dX0_init_1 ?_
  refine z_aload_n dX0_init_4 rfl rfl ?_
  refine z_aload_n dX0_init_5 rfl rfl ?_
  obtain ⟨M_1, eM_1, hf⟩ := zl_some hf
  refine zpR fl_X0_9 (Or.inl ⟨by decide, rfl⟩) rfl (Or.inl ⟨_, rfl⟩) (Or.inl ⟨by decide, rfl⟩) eM_1 dX0_init_6 ?_
  refine z_aload_n dX0_init_9 rfl rfl ?_
  refine z_aload_n dX0_init_10 rfl rfl ?_
  obtain ⟨M_2, eM_2, hf⟩ := zl_some hf
  refine zpR fl_X0_15 (Or.inl ⟨by decide, rfl⟩) rfl (Or.inl ⟨_, rfl⟩) (Or.inl ⟨by decide, rfl⟩) eM_2 dX0_init_11 ?_
  obtain ⟨rfl, rfl⟩ := z_end hf
  exact z_vret ⟨rfl, rfl, rfl⟩ rfl dX0_init_14
theorem cl_X11_50 : Cond.classLink RX11 50 (z_C 5) ∈ z_tbl := z_mem (List.mem_of_getElem? (i := 289) (by decide +kernel)) (by decide +kernel)
theorem in_5 : Cond.instantiable (z_C 5) (z_N 5) ∈ z_tbl := z_mem (List.mem_of_getElem? (i := 290) (by decide +kernel)) (by decide +kernel)
theorem ii_5 : Cond.initialized (z_C 5) ∈ z_tbl := z_mem (List.mem_of_getElem? (i := 100) (by decide +kernel)) (by decide +kernel)
noncomputable def fc_X5_init_39 (M : zM) : Option (Unit × zM) :=
  zl (M.1, zu M.2.1 38 0 (some 1), M.2.2) fun M_1 => zl (M_1.1, zu M_1.2.1 38 1 (some 29), M_1.2.2) fun M_2 => some ((), M_2)
set_option maxHeartbeats 2000000 in
set_option maxRecDepth 20000 in
theorem tc_X5_init_39 {l : Launch} {M MO : zM} {v : Unit} (hf : fc_X5_init_39 M = some (v, MO)) : zMet l yX5_init cX5_init 3 none 6 0 0 [.ref 38, .ref 1, .ref 29] (SH.take 39) M (zDv (SH.take 39) MO) := by
  refine zMet.of (by decide +kernel) (Nat.le_of_ble_eq_true rfl) (Or.inl rfl) ?_
  show zA l yX5_init cX5_init 3 none 6 0 0 39 (zDv (SH.take 39) MO) 0 0 0 [(0, .ref 38), (1, .ref 1), (2, .ref 29)] [] (SH.take 39) M
  unfold fc_X5_init_39 at hf
  refine z_aload_n dX5_init_0 rfl rfl ?_
  refine z_objInit oi_X5_3 oi_ins oi_cod (by decide) (Nat.le_of_ble_eq_true rfl) dX5_init_1 ?_
  refine z_aload_n dX5_init_4 rfl rfl ?_
  refine z_aload_n dX5_init_5 rfl rfl ?_
  obtain ⟨M_1, eM_1, hf⟩ := zl_some hf
  refine z_putF fl_X5_9 rfl rfl rfl rfl (Or.inl ⟨_, rfl⟩) (Or.inl ⟨by decide, rfl⟩) eM_1 dX5_init_6 ?_
  refine z_aload_n dX5_init_9 rfl rfl ?_
  refine z_aload_n dX5_init_10 rfl rfl ?_
  obtain ⟨M_2, eM_2, hf⟩ := zl_some hf
  refine zpR fl_X5_15 (Or.inl ⟨by decide, rfl⟩) rfl (Or.inl ⟨_, rfl⟩) (Or.inl ⟨by decide, rfl⟩) eM_2 dX5_init_11 ?_
  obtain ⟨rfl, rfl⟩ := z_end hf
  exact z_vret ⟨rfl, rfl, rfl⟩ rfl dX5_init_14
theorem cl_X11_59 : Cond.classLink RX11 59 (z_C 6) ∈ z_tbl := z_mem (List.mem_of_getElem? (i := 302) (by decide +kernel)) (by decide +kernel)
theorem in_6 : Cond.instantiable (z_C 6) (z_N 6) ∈ z_tbl := z_mem (List.mem_of_getElem? (i := 303) (by decide +kernel)) (by decide +kernel)
theorem ii_6 : Cond.initialized (z_C 6) ∈ z_tbl := z_mem (List.mem_of_getElem? (i := 101) (by decide +kernel)) (by decide +kernel)
noncomputable def fc_X6_init_40 (M : zM) : Option (Unit × zM) :=
  zl (M.1, zu M.2.1 39 0 (some 1), M.2.2) fun M_1 => zl (M_1.1, zu M_1.2.1 39 1 (some 15), M_1.2.2) fun M_2 => some ((), M_2)
set_option maxHeartbeats 2000000 in
set_option maxRecDepth 20000 in
theorem tc_X6_init_40 {l : Launch} {M MO : zM} {v : Unit} (hf : fc_X6_init_40 M = some (v, MO)) : zMet l yX6_init cX6_init 3 none 6 0 0 [.ref 39, .ref 1, .ref 15] (SH.take 40) M (zDv (SH.take 40) MO) := by
  refine zMet.of (by decide +kernel) (Nat.le_of_ble_eq_true rfl) (Or.inl rfl) ?_
  show zA l yX6_init cX6_init 3 none 6 0 0 40 (zDv (SH.take 40) MO) 0 0 0 [(0, .ref 39), (1, .ref 1), (2, .ref 15)] [] (SH.take 40) M
  unfold fc_X6_init_40 at hf
  refine z_aload_n dX6_init_0 rfl rfl ?_
  refine z_objInit oi_X6_3 oi_ins oi_cod (by decide) (Nat.le_of_ble_eq_true rfl) dX6_init_1 ?_
  refine z_aload_n dX6_init_4 rfl rfl ?_
  refine z_aload_n dX6_init_5 rfl rfl ?_
  obtain ⟨M_1, eM_1, hf⟩ := zl_some hf
  refine z_putF fl_X6_9 rfl rfl rfl rfl (Or.inl ⟨_, rfl⟩) (Or.inl ⟨by decide, rfl⟩) eM_1 dX6_init_6 ?_
  refine z_aload_n dX6_init_9 rfl rfl ?_
  refine z_aload_n dX6_init_10 rfl rfl ?_
  obtain ⟨M_2, eM_2, hf⟩ := zl_some hf
  refine zpR fl_X6_15 (Or.inl ⟨by decide, rfl⟩) rfl (Or.inl ⟨_, rfl⟩) (Or.inl ⟨by decide, rfl⟩) eM_2 dX6_init_11 ?_
  obtain ⟨rfl, rfl⟩ := z_end hf
  exact z_vret ⟨rfl, rfl, rfl⟩ rfl dX6_init_14
theorem cl_X11_68 : Cond.classLink RX11 68 (z_C 2) ∈ z_tbl := z_mem (List.mem_of_getElem? (i := 315) (by decide +kernel)) (by decide +kernel)
theorem in_2 : Cond.instantiable (z_C 2) (z_N 2) ∈ z_tbl := z_mem (List.mem_of_getElem? (i := 316) (by decide +kernel)) (by decide +kernel)
theorem ii_2 : Cond.initialized (z_C 2) ∈ z_tbl := z_mem (List.mem_of_getElem? (i := 102) (by decide +kernel)) (by decide +kernel)
noncomputable def fc_X2_init_41 (M : zM) : Option (Unit × zM) :=
  zl (z_al M 41) fun M_1 => zl (M_1.1, zu M_1.2.1 40 0 (some 41), M_1.2.2) fun M_2 => zl (z_al M_2 42) fun M_3 => zl (M_3.1, zu M_3.2.1 40 1 (some 42), M_3.2.2) fun M_4 => some ((), M_4)
set_option maxHeartbeats 2000000 in
set_option maxRecDepth 20000 in
theorem tc_X2_init_41 {l : Launch} {M MO : zM} {v : Unit} (hf : fc_X2_init_41 M = some (v, MO)) : zMet l yX2_init cX2_init 1 none 6 2 48 [.ref 40] (SH.take 41) M (zDv (SH.take 43) MO) := by
  refine zMet.of (by decide +kernel) (Nat.le_of_ble_eq_true rfl) (Or.inl rfl) ?_
  show zA l yX2_init cX2_init 1 none 6 2 48 41 (zDv (SH.take 43) MO) 0 0 0 [(0, .ref 40)] [] (SH.take 41) M
  unfold fc_X2_init_41 at hf
  refine z_aload_n dX2_init_0 rfl rfl ?_
  refine z_objInit oi_X2_3 oi_ins oi_cod (by decide) (Nat.le_of_ble_eq_true rfl) dX2_init_1 ?_
  refine z_aload_n dX2_init_4 rfl rfl ?_
  refine z_bipush (v := 24) dX2_init_5 (by decide) ?_
  obtain ⟨M_1, eM_1, hf⟩ := zl_some hf
  refine z_newa0 (N := 24) (n := 41) (sh1 := (SH.take 42)) ac_0 (by decide) (by decide) (Nat.le_of_ble_eq_true rfl) rfl rfl eM_1 ⟨by decide, by decide⟩ dX2_init_7 ?_
  obtain ⟨M_2, eM_2, hf⟩ := zl_some hf
  refine z_putF fl_X2_9 rfl rfl rfl rfl (Or.inr ⟨_, rfl⟩) (Or.inr ⟨by decide, _, rfl⟩) eM_2 dX2_init_9 ?_
  refine z_aload_n dX2_init_12 rfl rfl ?_
  refine z_bipush (v := 24) dX2_init_13 (by decide) ?_
  obtain ⟨M_3, eM_3, hf⟩ := zl_some hf
  refine z_newa0 (N := 24) (n := 42) (sh1 := (SH.take 43)) ac_0 (by decide) (by decide) (Nat.le_of_ble_eq_true rfl) rfl rfl eM_3 ⟨by decide, by decide⟩ dX2_init_15 ?_
  obtain ⟨M_4, eM_4, hf⟩ := zl_some hf
  refine z_putF fl_X2_15 rfl rfl rfl rfl (Or.inr ⟨_, rfl⟩) (Or.inr ⟨by decide, _, rfl⟩) eM_4 dX2_init_17 ?_
  obtain ⟨rfl, rfl⟩ := z_end hf
  exact z_vret ⟨rfl, rfl, rfl⟩ rfl dX2_init_20
theorem cl_X11_75 : Cond.classLink RX11 75 (z_C 7) ∈ z_tbl := z_mem (List.mem_of_getElem? (i := 328) (by decide +kernel)) (by decide +kernel)
theorem in_7 : Cond.instantiable (z_C 7) (z_N 7) ∈ z_tbl := z_mem (List.mem_of_getElem? (i := 329) (by decide +kernel)) (by decide +kernel)
theorem ii_7 : Cond.initialized (z_C 7) ∈ z_tbl := z_mem (List.mem_of_getElem? (i := 103) (by decide +kernel)) (by decide +kernel)
noncomputable def fc_X7_init_44 (M : zM) : Option (Unit × zM) :=
  zl (z_al M 44) fun M_1 => zl (M_1.1, zu M_1.2.1 43 0 (some 44), M_1.2.2) fun M_2 => zl (z_al M_2 45) fun M_3 => zl (M_3.1, zu M_3.2.1 43 1 (some 45), M_3.2.2) fun M_4 => zl (z_al M_4 46) fun M_5 => zl (M_5.1, zu M_5.2.1 43 2 (some 46), M_5.2.2) fun M_6 => some ((), M_6)
set_option maxHeartbeats 2000000 in
set_option maxRecDepth 20000 in
theorem tc_X7_init_44 {l : Launch} {M MO : zM} {v : Unit} (hf : fc_X7_init_44 M = some (v, MO)) : zMet l yX7_init cX7_init 1 none 6 3 12 [.ref 43] (SH.take 44) M (zDv (SH.take 47) MO) := by
  refine zMet.of (by decide +kernel) (Nat.le_of_ble_eq_true rfl) (Or.inl rfl) ?_
  show zA l yX7_init cX7_init 1 none 6 3 12 44 (zDv (SH.take 47) MO) 0 0 0 [(0, .ref 43)] [] (SH.take 44) M
  unfold fc_X7_init_44 at hf
  refine z_aload_n dX7_init_0 rfl rfl ?_
  refine z_objInit oi_X7_3 oi_ins oi_cod (by decide) (Nat.le_of_ble_eq_true rfl) dX7_init_1 ?_
  refine z_aload_n dX7_init_4 rfl rfl ?_
  refine z_iconst (v := 4) dX7_init_5 (by decide) ?_
  obtain ⟨M_1, eM_1, hf⟩ := zl_some hf
  refine z_newa0 (N := 4) (n := 44) (sh1 := (SH.take 45)) ac_0 (by decide) (by decide) (Nat.le_of_ble_eq_true rfl) rfl rfl eM_1 ⟨by decide, by decide⟩ dX7_init_6 ?_
  obtain ⟨M_2, eM_2, hf⟩ := zl_some hf
  refine z_putF fl_X7_9 rfl rfl rfl rfl (Or.inr ⟨_, rfl⟩) (Or.inr ⟨by decide, _, rfl⟩) eM_2 dX7_init_8 ?_
  refine z_aload_n dX7_init_11 rfl rfl ?_
  refine z_iconst (v := 4) dX7_init_12 (by decide) ?_
  obtain ⟨M_3, eM_3, hf⟩ := zl_some hf
  refine z_newa0 (N := 4) (n := 45) (sh1 := (SH.take 46)) ac_0 (by decide) (by decide) (Nat.le_of_ble_eq_true rfl) rfl rfl eM_3 ⟨by decide, by decide⟩ dX7_init_13 ?_
  obtain ⟨M_4, eM_4, hf⟩ := zl_some hf
  refine z_putF fl_X7_15 rfl rfl rfl rfl (Or.inr ⟨_, rfl⟩) (Or.inr ⟨by decide, _, rfl⟩) eM_4 dX7_init_15 ?_
  refine z_aload_n dX7_init_18 rfl rfl ?_
  refine z_iconst (v := 4) dX7_init_19 (by decide) ?_
  obtain ⟨M_5, eM_5, hf⟩ := zl_some hf
  refine z_newa0 (N := 4) (n := 46) (sh1 := (SH.take 47)) ac_0 (by decide) (by decide) (Nat.le_of_ble_eq_true rfl) rfl rfl eM_5 ⟨by decide, by decide⟩ dX7_init_20 ?_
  obtain ⟨M_6, eM_6, hf⟩ := zl_some hf
  refine z_putF fl_X7_18 rfl rfl rfl rfl (Or.inr ⟨_, rfl⟩) (Or.inr ⟨by decide, _, rfl⟩) eM_6 dX7_init_22 ?_
  obtain ⟨rfl, rfl⟩ := z_end hf
  exact z_vret ⟨rfl, rfl, rfl⟩ rfl dX7_init_25
theorem cl_X11_82 : Cond.classLink RX11 82 (z_C 1) ∈ z_tbl := z_mem (List.mem_of_getElem? (i := 344) (by decide +kernel)) (by decide +kernel)
theorem in_1 : Cond.instantiable (z_C 1) (z_N 1) ∈ z_tbl := z_mem (List.mem_of_getElem? (i := 345) (by decide +kernel)) (by decide +kernel)
theorem ii_1 : Cond.initialized (z_C 1) ∈ z_tbl := z_mem (List.mem_of_getElem? (i := 104) (by decide +kernel)) (by decide +kernel)
noncomputable def fc_X1_init_48 (M : zM) : Option (Unit × zM) :=
  zl (z_al M 48) fun M_1 => zl (M_1.1, zu M_1.2.1 47 0 (some 48), M_1.2.2) fun M_2 => zl (z_al M_2 49) fun M_3 => zl (M_3.1, zu M_3.2.1 47 1 (some 49), M_3.2.2) fun M_4 => zl (z_al M_4 50) fun M_5 => zl (M_5.1, zu M_5.2.1 47 2 (some 50), M_5.2.2) fun M_6 => zl (z_al M_6 51) fun M_7 => zl (M_7.1, zu M_7.2.1 47 3 (some 51), M_7.2.2) fun M_8 => some ((), M_8)
set_option maxHeartbeats 2000000 in
set_option maxRecDepth 20000 in
theorem tc_X1_init_48 {l : Launch} {M MO : zM} {v : Unit} (hf : fc_X1_init_48 M = some (v, MO)) : zMet l yX1_init cX1_init 1 none 6 4 24 [.ref 47] (SH.take 48) M (zDv (SH.take 52) MO) := by
  refine zMet.of (by decide +kernel) (Nat.le_of_ble_eq_true rfl) (Or.inl rfl) ?_
  show zA l yX1_init cX1_init 1 none 6 4 24 48 (zDv (SH.take 52) MO) 0 0 0 [(0, .ref 47)] [] (SH.take 48) M
  unfold fc_X1_init_48 at hf
  refine z_aload_n dX1_init_0 rfl rfl ?_
  refine z_objInit oi_X1_3 oi_ins oi_cod (by decide) (Nat.le_of_ble_eq_true rfl) dX1_init_1 ?_
  refine z_aload_n dX1_init_4 rfl rfl ?_
  refine z_bipush (v := 6) dX1_init_5 (by decide) ?_
  obtain ⟨M_1, eM_1, hf⟩ := zl_some hf
  refine z_newa0 (N := 6) (n := 48) (sh1 := (SH.take 49)) ac_0 (by decide) (by decide) (Nat.le_of_ble_eq_true rfl) rfl rfl eM_1 ⟨by decide, by decide⟩ dX1_init_7 ?_
  obtain ⟨M_2, eM_2, hf⟩ := zl_some hf
  refine z_putF fl_X1_9 rfl rfl rfl rfl (Or.inr ⟨_, rfl⟩) (Or.inr ⟨by decide, _, rfl⟩) eM_2 dX1_init_9 ?_
  refine z_aload_n dX1_init_12 rfl rfl ?_
  refine z_bipush (v := 6) dX1_init_13 (by decide) ?_
  obtain ⟨M_3, eM_3, hf⟩ := zl_some hf
  refine z_newa0 (N := 6) (n := 49) (sh1 := (SH.take 50)) ac_0 (by decide) (by decide) (Nat.le_of_ble_eq_true rfl) rfl rfl eM_3 ⟨by decide, by decide⟩ dX1_init_15 ?_
  obtain ⟨M_4, eM_4, hf⟩ := zl_some hf
  refine z_putF fl_X1_15 rfl rfl rfl rfl (Or.inr ⟨_, rfl⟩) (Or.inr ⟨by decide, _, rfl⟩) eM_4 dX1_init_17 ?_
  refine z_aload_n dX1_init_20 rfl rfl ?_
  refine z_bipush (v := 6) dX1_init_21 (by decide) ?_
  obtain ⟨M_5, eM_5, hf⟩ := zl_some hf
  refine z_newa0 (N := 6) (n := 50) (sh1 := (SH.take 51)) ac_0 (by decide) (by decide) (Nat.le_of_ble_eq_true rfl) rfl rfl eM_5 ⟨by decide, by decide⟩ dX1_init_23 ?_
  obtain ⟨M_6, eM_6, hf⟩ := zl_some hf
  refine z_putF fl_X1_18 rfl rfl rfl rfl (Or.inr ⟨_, rfl⟩) (Or.inr ⟨by decide, _, rfl⟩) eM_6 dX1_init_25 ?_
  refine z_aload_n dX1_init_28 rfl rfl ?_
  refine z_bipush (v := 6) dX1_init_29 (by decide) ?_
  obtain ⟨M_7, eM_7, hf⟩ := zl_some hf
  refine z_newa0 (N := 6) (n := 51) (sh1 := (SH.take 52)) ac_0 (by decide) (by decide) (Nat.le_of_ble_eq_true rfl) rfl rfl eM_7 ⟨by decide, by decide⟩ dX1_init_31 ?_
  obtain ⟨M_8, eM_8, hf⟩ := zl_some hf
  refine z_putF fl_X1_21 rfl rfl rfl rfl (Or.inr ⟨_, rfl⟩) (Or.inr ⟨by decide, _, rfl⟩) eM_8 dX1_init_33 ?_
  obtain ⟨rfl, rfl⟩ := z_end hf
  exact z_vret ⟨rfl, rfl, rfl⟩ rfl dX1_init_36
theorem cl_X11_89 : Cond.classLink RX11 89 (z_C 3) ∈ z_tbl := z_mem (List.mem_of_getElem? (i := 371) (by decide +kernel)) (by decide +kernel)
theorem in_3 : Cond.instantiable (z_C 3) (z_N 3) ∈ z_tbl := z_mem (List.mem_of_getElem? (i := 372) (by decide +kernel)) (by decide +kernel)
theorem ii_3 : Cond.initialized (z_C 3) ∈ z_tbl := z_mem (List.mem_of_getElem? (i := 105) (by decide +kernel)) (by decide +kernel)
noncomputable def fc_X3_init_53 (M : zM) : Option (Unit × zM) :=
  zl (z_al M 53) fun M_1 => zl (M_1.1, zu M_1.2.1 52 0 (some 53), M_1.2.2) fun M_2 => some ((), M_2)
set_option maxHeartbeats 2000000 in
set_option maxRecDepth 20000 in
theorem tc_X3_init_53 {l : Launch} {M MO : zM} {v : Unit} (hf : fc_X3_init_53 M = some (v, MO)) : zMet l yX3_init cX3_init 1 none 6 1 24 [.ref 52] (SH.take 53) M (zDv (SH.take 54) MO) := by
  refine zMet.of (by decide +kernel) (Nat.le_of_ble_eq_true rfl) (Or.inl rfl) ?_
  show zA l yX3_init cX3_init 1 none 6 1 24 53 (zDv (SH.take 54) MO) 0 0 0 [(0, .ref 52)] [] (SH.take 53) M
  unfold fc_X3_init_53 at hf
  refine z_aload_n dX3_init_0 rfl rfl ?_
  refine z_objInit oi_X3_3 oi_ins oi_cod (by decide) (Nat.le_of_ble_eq_true rfl) dX3_init_1 ?_
  refine z_aload_n dX3_init_4 rfl rfl ?_
  refine z_bipush (v := 24) dX3_init_5 (by decide) ?_
  obtain ⟨M_1, eM_1, hf⟩ := zl_some hf
  refine z_newa0 (N := 24) (n := 53) (sh1 := (SH.take 54)) ac_0 (by decide) (by decide) (Nat.le_of_ble_eq_true rfl) rfl rfl eM_1 ⟨by decide, by decide⟩ dX3_init_7 ?_
  obtain ⟨M_2, eM_2, hf⟩ := zl_some hf
  refine z_putF fl_X3_9 rfl rfl rfl rfl (Or.inr ⟨_, rfl⟩) (Or.inr ⟨by decide, _, rfl⟩) eM_2 dX3_init_9 ?_
  obtain ⟨rfl, rfl⟩ := z_end hf
  exact z_vret ⟨rfl, rfl, rfl⟩ rfl dX3_init_12
noncomputable def fc_X11_init_1 (M : zM) : Option (Unit × zM) :=
  zl (z_al M 1) fun M_1 => z_call (fc_X10_init_2 M_1) fun v_2 M_3 => zl (M_3.1, zu M_3.2.1 0 0 (some 1), M_3.2.2) fun M_5 => zl (z_al M_5 3) fun M_6 => z_call (fc_X8_init_4 M_6) fun v_7 M_8 => zl (M_8.1, zu M_8.2.1 0 1 (some 3), M_8.2.2) fun M_10 => zl (z_al M_10 9) fun M_11 => z_call (fc_X8_init_10 M_11) fun v_12 M_13 => zl (M_13.1, zu M_13.2.1 0 2 (some 9), M_13.2.2) fun M_15 => zl (z_al M_15 15) fun M_16 => z_call (fc_X8_init_16 M_16) fun v_17 M_18 => zl (M_18.1, zu M_18.2.1 0 3 (some 15), M_18.2.2) fun M_20 => zl (z_al M_20 21) fun M_21 => if M_21.2.1 0 1 = some 3 then z_call (fc_X4_init_22 M_21) fun v_23 M_24 => zl (M_24.1, zu M_24.2.1 0 11 (some 21), M_24.2.2) fun M_26 => zl (z_al M_26 29) fun M_27 => if M_27.2.1 0 1 = some 3 then z_call (fc_X4_init_30 M_27) fun v_29 M_30 => zl (M_30.1, zu M_30.2.1 0 12 (some 29), M_30.2.2) fun M_32 => zl (z_al M_32 37) fun M_33 => if M_33.2.1 0 1 = some 3 then if M_33.2.1 0 11 = some 21 then z_call (fc_X0_init_38 M_33) fun v_36 M_37 => zl (M_37.1, zu M_37.2.1 0 4 (some 37), M_37.2.2) fun M_39 => zl (z_al M_39 38) fun M_40 => if M_40.2.1 0 0 = some 1 then if M_40.2.1 0 12 = some 29 then z_call (fc_X5_init_39 M_40) fun v_43 M_44 => zl (M_44.1, zu M_44.2.1 0 5 (some 38), M_44.2.2) fun M_46 => zl (z_al M_46 39) fun M_47 => if M_47.2.1 0 0 = some 1 then if M_47.2.1 0 3 = some 15 then z_call (fc_X6_init_40 M_47) fun v_50 M_51 => zl (M_51.1, zu M_51.2.1 0 6 (some 39), M_51.2.2) fun M_53 => zl (z_al M_53 40) fun M_54 => z_call (fc_X2_init_41 M_54) fun v_55 M_56 => zl (M_56.1, zu M_56.2.1 0 7 (some 40), M_56.2.2) fun M_58 => zl (z_al M_58 43) fun M_59 => z_call (fc_X7_init_44 M_59) fun v_60 M_61 => zl (M_61.1, zu M_61.2.1 0 8 (some 43), M_61.2.2) fun M_63 => zl (z_al M_63 47) fun M_64 => z_call (fc_X1_init_48 M_64) fun v_65 M_66 => zl (M_66.1, zu M_66.2.1 0 9 (some 47), M_66.2.2) fun M_68 => zl (z_al M_68 52) fun M_69 => z_call (fc_X3_init_53 M_69) fun v_70 M_71 => zl (M_71.1, zu M_71.2.1 0 10 (some 52), M_71.2.2) fun M_73 => zl (zu M_73.1 0 13 0, M_73.2) fun M_74 => some ((), M_74) else none else none else none else none else none else none else none else none
set_option maxHeartbeats 2000000 in
set_option maxRecDepth 20000 in
theorem tc_X11_init_1 {l : Launch} {M MO : zM} {v : Unit} (hf : fc_X11_init_1 M = some (v, MO)) : zMet l yX11_init cX11_init 1 none 12 53 3591 [.ref 0] (SH.take 1) M (zDv (SH.take 54) MO) := by
  refine zMet.of (by decide +kernel) (Nat.le_of_ble_eq_true rfl) (Or.inl rfl) ?_
  show zA l yX11_init cX11_init 1 none 12 53 3591 1 (zDv (SH.take 54) MO) 0 0 0 [(0, .ref 0)] [] (SH.take 1) M
  unfold fc_X11_init_1 at hf
  refine z_aload_n dX11_init_0 rfl rfl ?_
  refine z_objInit oi_X11_3 oi_ins oi_cod (by decide) (Nat.le_of_ble_eq_true rfl) dX11_init_1 ?_
  refine z_aload_n dX11_init_4 rfl rfl ?_
  obtain ⟨M_1, eM_1, hf⟩ := zl_some hf
  refine z_new (ci := 9) (n := 1) (sh1 := (SH.take 2)) (by decide) cl_X11_9 in_9 ii_9 rfl rfl eM_1 ⟨by decide, by decide⟩ dX11_init_5 ?_
  refine z_dup dX11_init_8 rfl ?_
  obtain ⟨v_2, M_3, c_4, hf⟩ := z_call_some hf
  refine z_cI (tc_X10_init_2 c_4) kw_X10_init.1 lk_X11_11 kw_X10_init.2 rfl rfl (by decide) rfl (Nat.le_of_ble_eq_true rfl) ⟨by decide, by decide⟩ dX11_init_9 ?_
  obtain ⟨M_5, eM_5, hf⟩ := zl_some hf
  refine z_putF fl_X11_12 rfl rfl rfl rfl (Or.inl ⟨_, rfl⟩) (Or.inl ⟨by decide, rfl⟩) eM_5 dX11_init_12 ?_
  refine z_aload_n dX11_init_15 rfl rfl ?_
  obtain ⟨M_6, eM_6, hf⟩ := zl_some hf
  refine z_new (ci := 8) (n := 3) (sh1 := (SH.take 4)) (by decide) cl_X11_16 in_8 ii_8 rfl rfl eM_6 ⟨by decide, by decide⟩ dX11_init_16 ?_
  refine z_dup dX11_init_19 rfl ?_
  obtain ⟨v_7, M_8, c_9, hf⟩ := z_call_some hf
  refine z_cI (tc_X8_init_4 c_9) kw_X8_init.1 lk_X11_18 kw_X8_init.2 rfl rfl (by decide) rfl (Nat.le_of_ble_eq_true rfl) ⟨by decide, by decide⟩ dX11_init_20 ?_
  obtain ⟨M_10, eM_10, hf⟩ := zl_some hf
  refine z_putF fl_X11_19 rfl rfl rfl rfl (Or.inl ⟨_, rfl⟩) (Or.inl ⟨by decide, rfl⟩) eM_10 dX11_init_23 ?_
  refine z_aload_n dX11_init_26 rfl rfl ?_
  obtain ⟨M_11, eM_11, hf⟩ := zl_some hf
  refine z_new (ci := 8) (n := 9) (sh1 := (SH.take 10)) (by decide) cl_X11_16 in_8 ii_8 rfl rfl eM_11 ⟨by decide, by decide⟩ dX11_init_27 ?_
  refine z_dup dX11_init_30 rfl ?_
  obtain ⟨v_12, M_13, c_14, hf⟩ := z_call_some hf
  refine z_cI (tc_X8_init_10 c_14) kw_X8_init.1 lk_X11_18 kw_X8_init.2 rfl rfl (by decide) rfl (Nat.le_of_ble_eq_true rfl) ⟨by decide, by decide⟩ dX11_init_31 ?_
  obtain ⟨M_15, eM_15, hf⟩ := zl_some hf
  refine z_putF fl_X11_23 rfl rfl rfl rfl (Or.inl ⟨_, rfl⟩) (Or.inl ⟨by decide, rfl⟩) eM_15 dX11_init_34 ?_
  refine z_aload_n dX11_init_37 rfl rfl ?_
  obtain ⟨M_16, eM_16, hf⟩ := zl_some hf
  refine z_new (ci := 8) (n := 15) (sh1 := (SH.take 16)) (by decide) cl_X11_16 in_8 ii_8 rfl rfl eM_16 ⟨by decide, by decide⟩ dX11_init_38 ?_
  refine z_dup dX11_init_41 rfl ?_
  obtain ⟨v_17, M_18, c_19, hf⟩ := z_call_some hf
  refine z_cI (tc_X8_init_16 c_19) kw_X8_init.1 lk_X11_18 kw_X8_init.2 rfl rfl (by decide) rfl (Nat.le_of_ble_eq_true rfl) ⟨by decide, by decide⟩ dX11_init_42 ?_
  obtain ⟨M_20, eM_20, hf⟩ := zl_some hf
  refine z_putF fl_X11_26 rfl rfl rfl rfl (Or.inl ⟨_, rfl⟩) (Or.inl ⟨by decide, rfl⟩) eM_20 dX11_init_45 ?_
  refine z_aload_n dX11_init_48 rfl rfl ?_
  obtain ⟨M_21, eM_21, hf⟩ := zl_some hf
  refine z_new (ci := 4) (n := 21) (sh1 := (SH.take 22)) (by decide) cl_X11_29 in_4 ii_4 rfl rfl eM_21 ⟨by decide, by decide⟩ dX11_init_49 ?_
  refine z_dup dX11_init_52 rfl ?_
  refine z_aload_n dX11_init_53 rfl rfl ?_
  obtain ⟨g_22, hf⟩ := z_ifs hf
  refine zgR fl_X11_19 (Or.inl ⟨by decide, rfl⟩) (fun _ => rfl) g_22 dX11_init_54 (fun _ => ?_)
  obtain ⟨v_23, M_24, c_25, hf⟩ := z_call_some hf
  refine z_cI (tc_X4_init_22 c_25) kw_X4_init.1 lk_X11_31 kw_X4_init.2 rfl rfl (by decide) rfl (Nat.le_of_ble_eq_true rfl) ⟨by decide, by decide⟩ dX11_init_57 ?_
  obtain ⟨M_26, eM_26, hf⟩ := zl_some hf
  refine zpR fl_X11_34 (Or.inl ⟨by decide, rfl⟩) rfl (Or.inl ⟨_, rfl⟩) (Or.inl ⟨by decide, rfl⟩) eM_26 dX11_init_60 ?_
  refine z_aload_n dX11_init_63 rfl rfl ?_
  obtain ⟨M_27, eM_27, hf⟩ := zl_some hf
  refine z_new (ci := 4) (n := 29) (sh1 := (SH.take 30)) (by decide) cl_X11_29 in_4 ii_4 rfl rfl eM_27 ⟨by decide, by decide⟩ dX11_init_64 ?_
  refine z_dup dX11_init_67 rfl ?_
  refine z_aload_n dX11_init_68 rfl rfl ?_
  obtain ⟨g_28, hf⟩ := z_ifs hf
  refine zgR fl_X11_19 (Or.inl ⟨by decide, rfl⟩) (fun _ => rfl) g_28 dX11_init_69 (fun _ => ?_)
  obtain ⟨v_29, M_30, c_31, hf⟩ := z_call_some hf
  refine z_cI (tc_X4_init_30 c_31) kw_X4_init.1 lk_X11_31 kw_X4_init.2 rfl rfl (by decide) rfl (Nat.le_of_ble_eq_true rfl) ⟨by decide, by decide⟩ dX11_init_72 ?_
  obtain ⟨M_32, eM_32, hf⟩ := zl_some hf
  refine zpR fl_X11_38 (Or.inl ⟨by decide, rfl⟩) rfl (Or.inl ⟨_, rfl⟩) (Or.inl ⟨by decide, rfl⟩) eM_32 dX11_init_75 ?_
  refine z_aload_n dX11_init_78 rfl rfl ?_
  obtain ⟨M_33, eM_33, hf⟩ := zl_some hf
  refine z_new (ci := 0) (n := 37) (sh1 := (SH.take 38)) (by decide) cl_X11_41 in_0 ii_0 rfl rfl eM_33 ⟨by decide, by decide⟩ dX11_init_79 ?_
  refine z_dup dX11_init_82 rfl ?_
  refine z_aload_n dX11_init_83 rfl rfl ?_
  obtain ⟨g_34, hf⟩ := z_ifs hf
  refine zgR fl_X11_19 (Or.inl ⟨by decide, rfl⟩) (fun _ => rfl) g_34 dX11_init_84 (fun _ => ?_)
  refine z_aload_n dX11_init_87 rfl rfl ?_
  obtain ⟨g_35, hf⟩ := z_ifs hf
  refine zgR fl_X11_34 (Or.inl ⟨by decide, rfl⟩) (fun _ => rfl) g_35 dX11_init_88 (fun _ => ?_)
  obtain ⟨v_36, M_37, c_38, hf⟩ := z_call_some hf
  refine z_cI (tc_X0_init_38 c_38) kw_X0_init.1 lk_X11_43 kw_X0_init.2 rfl rfl (by decide) rfl (Nat.le_of_ble_eq_true rfl) ⟨by decide, by decide⟩ dX11_init_91 ?_
  obtain ⟨M_39, eM_39, hf⟩ := zl_some hf
  refine z_putF fl_X11_46 rfl rfl rfl rfl (Or.inl ⟨_, rfl⟩) (Or.inl ⟨by decide, rfl⟩) eM_39 dX11_init_94 ?_
  refine z_aload_n dX11_init_97 rfl rfl ?_
  obtain ⟨M_40, eM_40, hf⟩ := zl_some hf
  refine z_new (ci := 5) (n := 38) (sh1 := (SH.take 39)) (by decide) cl_X11_50 in_5 ii_5 rfl rfl eM_40 ⟨by decide, by decide⟩ dX11_init_98 ?_
  refine z_dup dX11_init_101 rfl ?_
  refine z_aload_n dX11_init_102 rfl rfl ?_
  obtain ⟨g_41, hf⟩ := z_ifs hf
  refine zgR fl_X11_12 (Or.inl ⟨by decide, rfl⟩) (fun _ => rfl) g_41 dX11_init_103 (fun _ => ?_)
  refine z_aload_n dX11_init_106 rfl rfl ?_
  obtain ⟨g_42, hf⟩ := z_ifs hf
  refine zgR fl_X11_38 (Or.inl ⟨by decide, rfl⟩) (fun _ => rfl) g_42 dX11_init_107 (fun _ => ?_)
  obtain ⟨v_43, M_44, c_45, hf⟩ := z_call_some hf
  refine z_cI (tc_X5_init_39 c_45) kw_X5_init.1 lk_X11_52 kw_X5_init.2 rfl rfl (by decide) rfl (Nat.le_of_ble_eq_true rfl) ⟨by decide, by decide⟩ dX11_init_110 ?_
  obtain ⟨M_46, eM_46, hf⟩ := zl_some hf
  refine z_putF fl_X11_55 rfl rfl rfl rfl (Or.inl ⟨_, rfl⟩) (Or.inl ⟨by decide, rfl⟩) eM_46 dX11_init_113 ?_
  refine z_aload_n dX11_init_116 rfl rfl ?_
  obtain ⟨M_47, eM_47, hf⟩ := zl_some hf
  refine z_new (ci := 6) (n := 39) (sh1 := (SH.take 40)) (by decide) cl_X11_59 in_6 ii_6 rfl rfl eM_47 ⟨by decide, by decide⟩ dX11_init_117 ?_
  refine z_dup dX11_init_120 rfl ?_
  refine z_aload_n dX11_init_121 rfl rfl ?_
  obtain ⟨g_48, hf⟩ := z_ifs hf
  refine zgR fl_X11_12 (Or.inl ⟨by decide, rfl⟩) (fun _ => rfl) g_48 dX11_init_122 (fun _ => ?_)
  refine z_aload_n dX11_init_125 rfl rfl ?_
  obtain ⟨g_49, hf⟩ := z_ifs hf
  refine zgR fl_X11_26 (Or.inl ⟨by decide, rfl⟩) (fun _ => rfl) g_49 dX11_init_126 (fun _ => ?_)
  obtain ⟨v_50, M_51, c_52, hf⟩ := z_call_some hf
  refine z_cI (tc_X6_init_40 c_52) kw_X6_init.1 lk_X11_61 kw_X6_init.2 rfl rfl (by decide) rfl (Nat.le_of_ble_eq_true rfl) ⟨by decide, by decide⟩ dX11_init_129 ?_
  obtain ⟨M_53, eM_53, hf⟩ := zl_some hf
  refine z_putF fl_X11_64 rfl rfl rfl rfl (Or.inl ⟨_, rfl⟩) (Or.inl ⟨by decide, rfl⟩) eM_53 dX11_init_132 ?_
  refine z_aload_n dX11_init_135 rfl rfl ?_
  obtain ⟨M_54, eM_54, hf⟩ := zl_some hf
  refine z_new (ci := 2) (n := 40) (sh1 := (SH.take 41)) (by decide) cl_X11_68 in_2 ii_2 rfl rfl eM_54 ⟨by decide, by decide⟩ dX11_init_136 ?_
  refine z_dup dX11_init_139 rfl ?_
  obtain ⟨v_55, M_56, c_57, hf⟩ := z_call_some hf
  refine z_cI (tc_X2_init_41 c_57) kw_X2_init.1 lk_X11_70 kw_X2_init.2 rfl rfl (by decide) rfl (Nat.le_of_ble_eq_true rfl) ⟨by decide, by decide⟩ dX11_init_140 ?_
  obtain ⟨M_58, eM_58, hf⟩ := zl_some hf
  refine z_putF fl_X11_71 rfl rfl rfl rfl (Or.inl ⟨_, rfl⟩) (Or.inl ⟨by decide, rfl⟩) eM_58 dX11_init_143 ?_
  refine z_aload_n dX11_init_146 rfl rfl ?_
  obtain ⟨M_59, eM_59, hf⟩ := zl_some hf
  refine z_new (ci := 7) (n := 43) (sh1 := (SH.take 44)) (by decide) cl_X11_75 in_7 ii_7 rfl rfl eM_59 ⟨by decide, by decide⟩ dX11_init_147 ?_
  refine z_dup dX11_init_150 rfl ?_
  obtain ⟨v_60, M_61, c_62, hf⟩ := z_call_some hf
  refine z_cI (tc_X7_init_44 c_62) kw_X7_init.1 lk_X11_77 kw_X7_init.2 rfl rfl (by decide) rfl (Nat.le_of_ble_eq_true rfl) ⟨by decide, by decide⟩ dX11_init_151 ?_
  obtain ⟨M_63, eM_63, hf⟩ := zl_some hf
  refine z_putF fl_X11_78 rfl rfl rfl rfl (Or.inl ⟨_, rfl⟩) (Or.inl ⟨by decide, rfl⟩) eM_63 dX11_init_154 ?_
  refine z_aload_n dX11_init_157 rfl rfl ?_
  obtain ⟨M_64, eM_64, hf⟩ := zl_some hf
  refine z_new (ci := 1) (n := 47) (sh1 := (SH.take 48)) (by decide) cl_X11_82 in_1 ii_1 rfl rfl eM_64 ⟨by decide, by decide⟩ dX11_init_158 ?_
  refine z_dup dX11_init_161 rfl ?_
  obtain ⟨v_65, M_66, c_67, hf⟩ := z_call_some hf
  refine z_cI (tc_X1_init_48 c_67) kw_X1_init.1 lk_X11_84 kw_X1_init.2 rfl rfl (by decide) rfl (Nat.le_of_ble_eq_true rfl) ⟨by decide, by decide⟩ dX11_init_162 ?_
  obtain ⟨M_68, eM_68, hf⟩ := zl_some hf
  refine z_putF fl_X11_85 rfl rfl rfl rfl (Or.inl ⟨_, rfl⟩) (Or.inl ⟨by decide, rfl⟩) eM_68 dX11_init_165 ?_
  refine z_aload_n dX11_init_168 rfl rfl ?_
  obtain ⟨M_69, eM_69, hf⟩ := zl_some hf
  refine z_new (ci := 3) (n := 52) (sh1 := (SH.take 53)) (by decide) cl_X11_89 in_3 ii_3 rfl rfl eM_69 ⟨by decide, by decide⟩ dX11_init_169 ?_
  refine z_dup dX11_init_172 rfl ?_
  obtain ⟨v_70, M_71, c_72, hf⟩ := z_call_some hf
  refine z_cI (tc_X3_init_53 c_72) kw_X3_init.1 lk_X11_91 kw_X3_init.2 rfl rfl (by decide) rfl (Nat.le_of_ble_eq_true rfl) ⟨by decide, by decide⟩ dX11_init_173 ?_
  obtain ⟨M_73, eM_73, hf⟩ := zl_some hf
  refine z_putF fl_X11_92 rfl rfl rfl rfl (Or.inl ⟨_, rfl⟩) (Or.inl ⟨by decide, rfl⟩) eM_73 dX11_init_176 ?_
  refine z_aload_n dX11_init_179 rfl rfl ?_
  refine z_iconst (v := 0) dX11_init_180 (by decide) ?_
  obtain ⟨M_74, eM_74, hf⟩ := zl_some hf
  refine zpI fl_X11_96 (Or.inl ⟨by decide, rfl⟩) rfl (Or.inr ⟨rfl, Or.inl rfl⟩) eM_74 dX11_init_181 ?_
  obtain ⟨rfl, rfl⟩ := z_end hf
  exact z_vret ⟨rfl, rfl, rfl⟩ rfl dX11_init_184
theorem ac_1 : Cond.arrayClass .byte ∈ z_tbl := z_mem (List.mem_of_getElem? (i := 1162) (by decide +kernel)) (by decide +kernel)
theorem ac_2 : Cond.arrayClass .long ∈ z_tbl := z_mem (List.mem_of_getElem? (i := 1163) (by decide +kernel)) (by decide +kernel)
noncomputable def f_X12_init_231 (x0 : Nat) : Nat → Int32 → zM → Option (Unit × zM)
  | 0, _, _ => none
  | n + 1, x1, M =>
    (if 24 ≤ x1 then some ((), M) else z_rd (M.2.1 x0 0) fun a_2 => if z_ix (48 + x1) (z_ln (SH.take 81) a_2) = true then zl (zu M.1 a_2 ((48 + x1) : Int32).toNatClampNeg 1, M.2) fun M_4 => z_rd (M_4.2.1 x0 0) fun a_5 => if z_ix (72 + x1) (z_ln (SH.take 81) a_5) = true then zl (zu M_4.1 a_5 ((72 + x1) : Int32).toNatClampNeg 1, M_4.2) fun M_7 => zl (x1 + 1) fun x1_8 => (f_X12_init_231 x0 n x1_8 M_7) else none else none)
set_option maxHeartbeats 2000000 in
set_option maxRecDepth 20000 in
theorem t_X12_init_231 {l : Launch} {x0 : Nat} {MO : zM} {v : Unit} (h0 : z_tm (SH.take 81) 11 x0) : ∀ (n : Nat) (x1 : Int32) (M : zM), f_X12_init_231 x0 n x1 M = some (v, MO) → zA l yX12_init cX12_init 2 none 12 26 3739 55 (zDv (SH.take 81) MO) 26 3739 231 [(0, .ref x0), (1, .int x1)] [] (SH.take 81) M := by
  intro n
  induction n with
  | zero =>
    intro x1 M hf
    rw [f_X12_init_231] at hf
    cases hf
  | succ n ih =>
    intro x1 M hf
    rw [f_X12_init_231] at hf
    refine z_iload_n dX12_init_231 rfl rfl ?_
    refine z_bipush (v := 24) dX12_init_232 (by decide) ?_
    refine z_icmp_ge (tgt := 263) dX12_init_234 (by decide) (fun q_1 => ?_) (fun q_1 => ?_)
    · have hf := (if_pos q_1).symm.trans hf
      obtain ⟨rfl, rfl⟩ := z_end hf
      exact z_vret ⟨rfl, rfl, rfl⟩ rfl dX12_init_263
    · have hf := (if_neg q_1).symm.trans hf
      refine z_aload_n dX12_init_237 rfl rfl ?_
      obtain ⟨a_2, ra_2, hf⟩ := z_rd_some hf
      refine zgR fl_X12_7 h0 (fun _ => rfl) ra_2 dX12_init_238 (fun ha_2 => ?_)
      refine z_bipush (v := 48) dX12_init_241 (by decide) ?_
      refine z_iload_n dX12_init_243 rfl rfl ?_
      refine z_iadd dX12_init_244 ?_
      refine z_iconst (v := 1) dX12_init_245 (by decide) ?_
      obtain ⟨g_3, hf⟩ := z_ifs hf
      obtain ⟨M_4, eM_4, hf⟩ := zl_some hf
      refine z_iast ha_2 g_3 eM_4 dX12_init_246 ?_
      refine z_aload_n dX12_init_247 rfl rfl ?_
      obtain ⟨a_5, ra_5, hf⟩ := z_rd_some hf
      refine zgR fl_X12_7 h0 (fun _ => rfl) ra_5 dX12_init_248 (fun ha_5 => ?_)
      refine z_bipush (v := 72) dX12_init_251 (by decide) ?_
      refine z_iload_n dX12_init_253 rfl rfl ?_
      refine z_iadd dX12_init_254 ?_
      refine z_iconst (v := 1) dX12_init_255 (by decide) ?_
      obtain ⟨g_6, hf⟩ := z_ifs hf
      obtain ⟨M_7, eM_7, hf⟩ := zl_some hf
      refine z_iast ha_5 g_6 eM_7 dX12_init_256 ?_
      obtain ⟨x1_8, ex1_8, hf⟩ := zl_some hf
      refine z_iinc' (lv' := [(1, .int x1_8), (0, .ref x0)]) dX12_init_257 rfl (by decide) ex1_8 (by decide) rfl ?_
      refine z_goto (tgt := 231) dX12_init_260 (by decide) ?_
      refine zA.pick [(0, .ref x0), (1, .int x1_8)] [1, 0] rfl ?_
      exact ih x1_8 M_7 hf
noncomputable def fc_X12_init_55 (M : zM) : Option (Unit × zM) :=
  zl (z_al M 55) fun M_1 => zl (M_1.1, zu M_1.2.1 54 0 (some 55), M_1.2.2) fun M_2 => zl (z_al M_2 56) fun M_3 => zl (M_3.1, zu M_3.2.1 54 1 (some 56), M_3.2.2) fun M_4 => zl (z_al M_4 57) fun M_5 => zl (M_5.1, zu M_5.2.1 54 2 (some 57), M_5.2.2) fun M_6 => zl (z_al M_6 58) fun M_7 => zl (M_7.1, zu M_7.2.1 54 3 (some 58), M_7.2.2) fun M_8 => zl (z_al M_8 59) fun M_9 => zl (M_9.1, zu M_9.2.1 54 14 (some 59), M_9.2.2) fun M_10 => zl (z_al M_10 60) fun M_11 => zl (M_11.1, zu M_11.2.1 54 15 (some 60), M_11.2.2) fun M_12 => zl (z_al M_12 61) fun M_13 => zl (M_13.1, zu M_13.2.1 54 16 (some 61), M_13.2.2) fun M_14 => zl (z_al M_14 62) fun M_15 => zl (M_15.1, zu M_15.2.1 54 17 (some 62), M_15.2.2) fun M_16 => zl (z_al M_16 63) fun M_17 => zl (M_17.1, zu M_17.2.1 54 18 (some 63), M_17.2.2) fun M_18 => zl (z_al M_18 64) fun M_19 => zl (M_19.1, zu M_19.2.1 54 19 (some 64), M_19.2.2) fun M_20 => zl (z_al M_20 65) fun M_21 => zl (M_21.1, zu M_21.2.1 54 20 (some 65), M_21.2.2) fun M_22 => zl (z_al M_22 66) fun M_23 => zl (M_23.1, zu M_23.2.1 54 21 (some 66), M_23.2.2) fun M_24 => zl (z_al M_24 67) fun M_25 => zl (M_25.1, zu M_25.2.1 54 22 (some 67), M_25.2.2) fun M_26 => zl (z_al M_26 68) fun M_27 => zl (M_27.1, zu M_27.2.1 54 23 (some 68), M_27.2.2) fun M_28 => zl (z_al M_28 69) fun M_29 => zl (M_29.1, zu M_29.2.1 54 24 (some 69), M_29.2.2) fun M_30 => zl (z_al M_30 70) fun M_31 => zl (M_31.1, zu M_31.2.1 54 25 (some 70), M_31.2.2) fun M_32 => zl (z_al M_32 71) fun M_33 => zl (M_33.1, zu M_33.2.1 54 26 (some 71), M_33.2.2) fun M_34 => zl (z_al M_34 72) fun M_35 => zl (M_35.1, zu M_35.2.1 54 31 (some 72), M_35.2.2) fun M_36 => zl (z_al M_36 73) fun M_37 => zl (M_37.1, zu M_37.2.1 54 32 (some 73), M_37.2.2) fun M_38 => zl (z_al M_38 74) fun M_39 => zl (M_39.1, zu M_39.2.1 54 33 (some 74), M_39.2.2) fun M_40 => zl (z_al M_40 75) fun M_41 => zl (M_41.1, zu M_41.2.1 54 34 (some 75), M_41.2.2) fun M_42 => zl (z_al M_42 76) fun M_43 => zl (M_43.1, zu M_43.2.1 54 35 (some 76), M_43.2.2) fun M_44 => zl (z_al M_44 77) fun M_45 => zl (M_45.1, zu M_45.2.1 54 36 (some 77), M_45.2.2) fun M_46 => zl (z_al M_46 78) fun M_47 => zl (M_47.1, zu M_47.2.1 54 37 (some 78), M_47.2.2) fun M_48 => zl (z_al M_48 79) fun M_49 => zl (M_49.1, zu M_49.2.1 54 38 (some 79), M_49.2.2) fun M_50 => zl (z_al M_50 80) fun M_51 => zl (M_51.1, zu M_51.2.1 54 39 (some 80), M_51.2.2) fun M_52 => if M_52.2.1 54 0 = some 55 then if z_ix 698 (z_ln (SH.take 81) 55) = true then zl (zu M_52.1 55 (698 : Int32).toNatClampNeg 1, M_52.2) fun M_55 => (f_X12_init_231 54 zF 0 M_55) else none else none
set_option maxHeartbeats 2000000 in
set_option maxRecDepth 20000 in
theorem tc_X12_init_55 {l : Launch} {M MO : zM} {v : Unit} (hf : fc_X12_init_55 M = some (v, MO)) : zMet l yX12_init cX12_init 2 none 12 26 3739 [.ref 54] (SH.take 55) M (zDv (SH.take 81) MO) := by
  refine zMet.of (by decide +kernel) (Nat.le_of_ble_eq_true rfl) (Or.inl rfl) ?_
  show zA l yX12_init cX12_init 2 none 12 26 3739 55 (zDv (SH.take 81) MO) 0 0 0 [(0, .ref 54)] [] (SH.take 55) M
  unfold fc_X12_init_55 at hf
  refine z_aload_n dX12_init_0 rfl rfl ?_
  refine z_objInit oi_X12_1 oi_ins oi_cod (by decide) (Nat.le_of_ble_eq_true rfl) dX12_init_1 ?_
  refine z_aload_n dX12_init_4 rfl rfl ?_
  refine z_sipush (v := 699) dX12_init_5 (by decide) ?_
  obtain ⟨M_1, eM_1, hf⟩ := zl_some hf
  refine z_newa0 (N := 699) (n := 55) (sh1 := (SH.take 56)) ac_0 (by decide) (by decide) (Nat.le_of_ble_eq_true rfl) rfl rfl eM_1 ⟨by decide, by decide⟩ dX12_init_8 ?_
  obtain ⟨M_2, eM_2, hf⟩ := zl_some hf
  refine z_putF fl_X12_7 rfl rfl rfl rfl (Or.inr ⟨_, rfl⟩) (Or.inr ⟨by decide, _, rfl⟩) eM_2 dX12_init_10 ?_
  refine z_aload_n dX12_init_13 rfl rfl ?_
  refine z_sipush (v := 699) dX12_init_14 (by decide) ?_
  obtain ⟨M_3, eM_3, hf⟩ := zl_some hf
  refine z_newa0 (N := 699) (n := 56) (sh1 := (SH.take 57)) ac_0 (by decide) (by decide) (Nat.le_of_ble_eq_true rfl) rfl rfl eM_3 ⟨by decide, by decide⟩ dX12_init_17 ?_
  obtain ⟨M_4, eM_4, hf⟩ := zl_some hf
  refine z_putF fl_X12_13 rfl rfl rfl rfl (Or.inr ⟨_, rfl⟩) (Or.inr ⟨by decide, _, rfl⟩) eM_4 dX12_init_19 ?_
  refine z_aload_n dX12_init_22 rfl rfl ?_
  refine z_sipush (v := 699) dX12_init_23 (by decide) ?_
  obtain ⟨M_5, eM_5, hf⟩ := zl_some hf
  refine z_newa0 (N := 699) (n := 57) (sh1 := (SH.take 58)) ac_0 (by decide) (by decide) (Nat.le_of_ble_eq_true rfl) rfl rfl eM_5 ⟨by decide, by decide⟩ dX12_init_26 ?_
  obtain ⟨M_6, eM_6, hf⟩ := zl_some hf
  refine z_putF fl_X12_16 rfl rfl rfl rfl (Or.inr ⟨_, rfl⟩) (Or.inr ⟨by decide, _, rfl⟩) eM_6 dX12_init_28 ?_
  refine z_aload_n dX12_init_31 rfl rfl ?_
  refine z_sipush (v := 260) dX12_init_32 (by decide) ?_
  obtain ⟨M_7, eM_7, hf⟩ := zl_some hf
  refine z_newa1 (N := 260) (n := 58) (sh1 := (SH.take 59)) ac_1 (by decide) (by decide) (Nat.le_of_ble_eq_true rfl) rfl rfl eM_7 ⟨by decide, by decide⟩ dX12_init_35 ?_
  obtain ⟨M_8, eM_8, hf⟩ := zl_some hf
  refine z_putF fl_X12_19 rfl rfl rfl rfl (Or.inr ⟨_, rfl⟩) (Or.inr ⟨by decide, _, rfl⟩) eM_8 dX12_init_37 ?_
  refine z_aload_n dX12_init_40 rfl rfl ?_
  refine z_sipush (v := 260) dX12_init_41 (by decide) ?_
  obtain ⟨M_9, eM_9, hf⟩ := zl_some hf
  refine z_newa0 (N := 260) (n := 59) (sh1 := (SH.take 60)) ac_0 (by decide) (by decide) (Nat.le_of_ble_eq_true rfl) rfl rfl eM_9 ⟨by decide, by decide⟩ dX12_init_44 ?_
  obtain ⟨M_10, eM_10, hf⟩ := zl_some hf
  refine z_putF fl_X12_23 rfl rfl rfl rfl (Or.inr ⟨_, rfl⟩) (Or.inr ⟨by decide, _, rfl⟩) eM_10 dX12_init_46 ?_
  refine z_aload_n dX12_init_49 rfl rfl ?_
  refine z_sipush (v := 260) dX12_init_50 (by decide) ?_
  obtain ⟨M_11, eM_11, hf⟩ := zl_some hf
  refine z_newa0 (N := 260) (n := 60) (sh1 := (SH.take 61)) ac_0 (by decide) (by decide) (Nat.le_of_ble_eq_true rfl) rfl rfl eM_11 ⟨by decide, by decide⟩ dX12_init_53 ?_
  obtain ⟨M_12, eM_12, hf⟩ := zl_some hf
  refine z_putF fl_X12_26 rfl rfl rfl rfl (Or.inr ⟨_, rfl⟩) (Or.inr ⟨by decide, _, rfl⟩) eM_12 dX12_init_55 ?_
  refine z_aload_n dX12_init_58 rfl rfl ?_
  refine z_bipush (v := 16) dX12_init_59 (by decide) ?_
  obtain ⟨M_13, eM_13, hf⟩ := zl_some hf
  refine z_newa0 (N := 16) (n := 61) (sh1 := (SH.take 62)) ac_0 (by decide) (by decide) (Nat.le_of_ble_eq_true rfl) rfl rfl eM_13 ⟨by decide, by decide⟩ dX12_init_61 ?_
  obtain ⟨M_14, eM_14, hf⟩ := zl_some hf
  refine z_putF fl_X12_29 rfl rfl rfl rfl (Or.inr ⟨_, rfl⟩) (Or.inr ⟨by decide, _, rfl⟩) eM_14 dX12_init_63 ?_
  refine z_aload_n dX12_init_66 rfl rfl ?_
  refine z_bipush (v := 16) dX12_init_67 (by decide) ?_
  obtain ⟨M_15, eM_15, hf⟩ := zl_some hf
  refine z_newa0 (N := 16) (n := 62) (sh1 := (SH.take 63)) ac_0 (by decide) (by decide) (Nat.le_of_ble_eq_true rfl) rfl rfl eM_15 ⟨by decide, by decide⟩ dX12_init_69 ?_
  obtain ⟨M_16, eM_16, hf⟩ := zl_some hf
  refine z_putF fl_X12_32 rfl rfl rfl rfl (Or.inr ⟨_, rfl⟩) (Or.inr ⟨by decide, _, rfl⟩) eM_16 dX12_init_71 ?_
  refine z_aload_n dX12_init_74 rfl rfl ?_
  refine z_bipush (v := 16) dX12_init_75 (by decide) ?_
  obtain ⟨M_17, eM_17, hf⟩ := zl_some hf
  refine z_newa0 (N := 16) (n := 63) (sh1 := (SH.take 64)) ac_0 (by decide) (by decide) (Nat.le_of_ble_eq_true rfl) rfl rfl eM_17 ⟨by decide, by decide⟩ dX12_init_77 ?_
  obtain ⟨M_18, eM_18, hf⟩ := zl_some hf
  refine z_putF fl_X12_35 rfl rfl rfl rfl (Or.inr ⟨_, rfl⟩) (Or.inr ⟨by decide, _, rfl⟩) eM_18 dX12_init_79 ?_
  refine z_aload_n dX12_init_82 rfl rfl ?_
  refine z_bipush (v := 16) dX12_init_83 (by decide) ?_
  obtain ⟨M_19, eM_19, hf⟩ := zl_some hf
  refine z_newa0 (N := 16) (n := 64) (sh1 := (SH.take 65)) ac_0 (by decide) (by decide) (Nat.le_of_ble_eq_true rfl) rfl rfl eM_19 ⟨by decide, by decide⟩ dX12_init_85 ?_
  obtain ⟨M_20, eM_20, hf⟩ := zl_some hf
  refine z_putF fl_X12_38 rfl rfl rfl rfl (Or.inr ⟨_, rfl⟩) (Or.inr ⟨by decide, _, rfl⟩) eM_20 dX12_init_87 ?_
  refine z_aload_n dX12_init_90 rfl rfl ?_
  refine z_sipush (v := 260) dX12_init_91 (by decide) ?_
  obtain ⟨M_21, eM_21, hf⟩ := zl_some hf
  refine z_newa0 (N := 260) (n := 65) (sh1 := (SH.take 66)) ac_0 (by decide) (by decide) (Nat.le_of_ble_eq_true rfl) rfl rfl eM_21 ⟨by decide, by decide⟩ dX12_init_94 ?_
  obtain ⟨M_22, eM_22, hf⟩ := zl_some hf
  refine z_putF fl_X12_41 rfl rfl rfl rfl (Or.inr ⟨_, rfl⟩) (Or.inr ⟨by decide, _, rfl⟩) eM_22 dX12_init_96 ?_
  refine z_aload_n dX12_init_99 rfl rfl ?_
  refine z_bipush (v := 16) dX12_init_100 (by decide) ?_
  obtain ⟨M_23, eM_23, hf⟩ := zl_some hf
  refine z_newa0 (N := 16) (n := 66) (sh1 := (SH.take 67)) ac_0 (by decide) (by decide) (Nat.le_of_ble_eq_true rfl) rfl rfl eM_23 ⟨by decide, by decide⟩ dX12_init_102 ?_
  obtain ⟨M_24, eM_24, hf⟩ := zl_some hf
  refine z_putF fl_X12_44 rfl rfl rfl rfl (Or.inr ⟨_, rfl⟩) (Or.inr ⟨by decide, _, rfl⟩) eM_24 dX12_init_104 ?_
  refine z_aload_n dX12_init_107 rfl rfl ?_
  refine z_bipush (v := 16) dX12_init_108 (by decide) ?_
  obtain ⟨M_25, eM_25, hf⟩ := zl_some hf
  refine z_newa0 (N := 16) (n := 67) (sh1 := (SH.take 68)) ac_0 (by decide) (by decide) (Nat.le_of_ble_eq_true rfl) rfl rfl eM_25 ⟨by decide, by decide⟩ dX12_init_110 ?_
  obtain ⟨M_26, eM_26, hf⟩ := zl_some hf
  refine z_putF fl_X12_47 rfl rfl rfl rfl (Or.inr ⟨_, rfl⟩) (Or.inr ⟨by decide, _, rfl⟩) eM_26 dX12_init_112 ?_
  refine z_aload_n dX12_init_115 rfl rfl ?_
  refine z_bipush (v := 16) dX12_init_116 (by decide) ?_
  obtain ⟨M_27, eM_27, hf⟩ := zl_some hf
  refine z_newa0 (N := 16) (n := 68) (sh1 := (SH.take 69)) ac_0 (by decide) (by decide) (Nat.le_of_ble_eq_true rfl) rfl rfl eM_27 ⟨by decide, by decide⟩ dX12_init_118 ?_
  obtain ⟨M_28, eM_28, hf⟩ := zl_some hf
  refine z_putF fl_X12_50 rfl rfl rfl rfl (Or.inr ⟨_, rfl⟩) (Or.inr ⟨by decide, _, rfl⟩) eM_28 dX12_init_120 ?_
  refine z_aload_n dX12_init_123 rfl rfl ?_
  refine z_bipush (v := 16) dX12_init_124 (by decide) ?_
  obtain ⟨M_29, eM_29, hf⟩ := zl_some hf
  refine z_newa0 (N := 16) (n := 69) (sh1 := (SH.take 70)) ac_0 (by decide) (by decide) (Nat.le_of_ble_eq_true rfl) rfl rfl eM_29 ⟨by decide, by decide⟩ dX12_init_126 ?_
  obtain ⟨M_30, eM_30, hf⟩ := zl_some hf
  refine z_putF fl_X12_53 rfl rfl rfl rfl (Or.inr ⟨_, rfl⟩) (Or.inr ⟨by decide, _, rfl⟩) eM_30 dX12_init_128 ?_
  refine z_aload_n dX12_init_131 rfl rfl ?_
  refine z_sipush (v := 260) dX12_init_132 (by decide) ?_
  obtain ⟨M_31, eM_31, hf⟩ := zl_some hf
  refine z_newa0 (N := 260) (n := 70) (sh1 := (SH.take 71)) ac_0 (by decide) (by decide) (Nat.le_of_ble_eq_true rfl) rfl rfl eM_31 ⟨by decide, by decide⟩ dX12_init_135 ?_
  obtain ⟨M_32, eM_32, hf⟩ := zl_some hf
  refine z_putF fl_X12_56 rfl rfl rfl rfl (Or.inr ⟨_, rfl⟩) (Or.inr ⟨by decide, _, rfl⟩) eM_32 dX12_init_137 ?_
  refine z_aload_n dX12_init_140 rfl rfl ?_
  refine z_bipush (v := 8) dX12_init_141 (by decide) ?_
  obtain ⟨M_33, eM_33, hf⟩ := zl_some hf
  refine z_newa0 (N := 8) (n := 71) (sh1 := (SH.take 72)) ac_0 (by decide) (by decide) (Nat.le_of_ble_eq_true rfl) rfl rfl eM_33 ⟨by decide, by decide⟩ dX12_init_143 ?_
  obtain ⟨M_34, eM_34, hf⟩ := zl_some hf
  refine z_putF fl_X12_59 rfl rfl rfl rfl (Or.inr ⟨_, rfl⟩) (Or.inr ⟨by decide, _, rfl⟩) eM_34 dX12_init_145 ?_
  refine z_aload_n dX12_init_148 rfl rfl ?_
  refine z_bipush (v := 24) dX12_init_149 (by decide) ?_
  obtain ⟨M_35, eM_35, hf⟩ := zl_some hf
  refine z_newa0 (N := 24) (n := 72) (sh1 := (SH.take 73)) ac_0 (by decide) (by decide) (Nat.le_of_ble_eq_true rfl) rfl rfl eM_35 ⟨by decide, by decide⟩ dX12_init_151 ?_
  obtain ⟨M_36, eM_36, hf⟩ := zl_some hf
  refine z_putF fl_X12_62 rfl rfl rfl rfl (Or.inr ⟨_, rfl⟩) (Or.inr ⟨by decide, _, rfl⟩) eM_36 dX12_init_153 ?_
  refine z_aload_n dX12_init_156 rfl rfl ?_
  refine z_bipush (v := 24) dX12_init_157 (by decide) ?_
  obtain ⟨M_37, eM_37, hf⟩ := zl_some hf
  refine z_newa0 (N := 24) (n := 73) (sh1 := (SH.take 74)) ac_0 (by decide) (by decide) (Nat.le_of_ble_eq_true rfl) rfl rfl eM_37 ⟨by decide, by decide⟩ dX12_init_159 ?_
  obtain ⟨M_38, eM_38, hf⟩ := zl_some hf
  refine z_putF fl_X12_65 rfl rfl rfl rfl (Or.inr ⟨_, rfl⟩) (Or.inr ⟨by decide, _, rfl⟩) eM_38 dX12_init_161 ?_
  refine z_aload_n dX12_init_164 rfl rfl ?_
  refine z_bipush (v := 24) dX12_init_165 (by decide) ?_
  obtain ⟨M_39, eM_39, hf⟩ := zl_some hf
  refine z_newa2 (N := 24) (n := 74) (sh1 := (SH.take 75)) ac_2 (by decide) (by decide) (Nat.le_of_ble_eq_true rfl) rfl rfl eM_39 ⟨by decide, by decide⟩ dX12_init_167 ?_
  obtain ⟨M_40, eM_40, hf⟩ := zl_some hf
  refine z_putF fl_X12_68 rfl rfl rfl rfl (Or.inr ⟨_, rfl⟩) (Or.inr ⟨by decide, _, rfl⟩) eM_40 dX12_init_169 ?_
  refine z_aload_n dX12_init_172 rfl rfl ?_
  refine z_bipush (v := 24) dX12_init_173 (by decide) ?_
  obtain ⟨M_41, eM_41, hf⟩ := zl_some hf
  refine z_newa2 (N := 24) (n := 75) (sh1 := (SH.take 76)) ac_2 (by decide) (by decide) (Nat.le_of_ble_eq_true rfl) rfl rfl eM_41 ⟨by decide, by decide⟩ dX12_init_175 ?_
  obtain ⟨M_42, eM_42, hf⟩ := zl_some hf
  refine z_putF fl_X12_72 rfl rfl rfl rfl (Or.inr ⟨_, rfl⟩) (Or.inr ⟨by decide, _, rfl⟩) eM_42 dX12_init_177 ?_
  refine z_aload_n dX12_init_180 rfl rfl ?_
  refine z_bipush (v := 6) dX12_init_181 (by decide) ?_
  obtain ⟨M_43, eM_43, hf⟩ := zl_some hf
  refine z_newa0 (N := 6) (n := 76) (sh1 := (SH.take 77)) ac_0 (by decide) (by decide) (Nat.le_of_ble_eq_true rfl) rfl rfl eM_43 ⟨by decide, by decide⟩ dX12_init_183 ?_
  obtain ⟨M_44, eM_44, hf⟩ := zl_some hf
  refine z_putF fl_X12_75 rfl rfl rfl rfl (Or.inr ⟨_, rfl⟩) (Or.inr ⟨by decide, _, rfl⟩) eM_44 dX12_init_185 ?_
  refine z_aload_n dX12_init_188 rfl rfl ?_
  refine z_bipush (v := 6) dX12_init_189 (by decide) ?_
  obtain ⟨M_45, eM_45, hf⟩ := zl_some hf
  refine z_newa0 (N := 6) (n := 77) (sh1 := (SH.take 78)) ac_0 (by decide) (by decide) (Nat.le_of_ble_eq_true rfl) rfl rfl eM_45 ⟨by decide, by decide⟩ dX12_init_191 ?_
  obtain ⟨M_46, eM_46, hf⟩ := zl_some hf
  refine z_putF fl_X12_78 rfl rfl rfl rfl (Or.inr ⟨_, rfl⟩) (Or.inr ⟨by decide, _, rfl⟩) eM_46 dX12_init_193 ?_
  refine z_aload_n dX12_init_196 rfl rfl ?_
  refine z_bipush (v := 6) dX12_init_197 (by decide) ?_
  obtain ⟨M_47, eM_47, hf⟩ := zl_some hf
  refine z_newa0 (N := 6) (n := 78) (sh1 := (SH.take 79)) ac_0 (by decide) (by decide) (Nat.le_of_ble_eq_true rfl) rfl rfl eM_47 ⟨by decide, by decide⟩ dX12_init_199 ?_
  obtain ⟨M_48, eM_48, hf⟩ := zl_some hf
  refine z_putF fl_X12_81 rfl rfl rfl rfl (Or.inr ⟨_, rfl⟩) (Or.inr ⟨by decide, _, rfl⟩) eM_48 dX12_init_201 ?_
  refine z_aload_n dX12_init_204 rfl rfl ?_
  refine z_bipush (v := 72) dX12_init_205 (by decide) ?_
  obtain ⟨M_49, eM_49, hf⟩ := zl_some hf
  refine z_newa0 (N := 72) (n := 79) (sh1 := (SH.take 80)) ac_0 (by decide) (by decide) (Nat.le_of_ble_eq_true rfl) rfl rfl eM_49 ⟨by decide, by decide⟩ dX12_init_207 ?_
  obtain ⟨M_50, eM_50, hf⟩ := zl_some hf
  refine z_putF fl_X12_84 rfl rfl rfl rfl (Or.inr ⟨_, rfl⟩) (Or.inr ⟨by decide, _, rfl⟩) eM_50 dX12_init_209 ?_
  refine z_aload_n dX12_init_212 rfl rfl ?_
  refine z_bipush (v := 20) dX12_init_213 (by decide) ?_
  obtain ⟨M_51, eM_51, hf⟩ := zl_some hf
  refine z_newa0 (N := 20) (n := 80) (sh1 := (SH.take 81)) ac_0 (by decide) (by decide) (Nat.le_of_ble_eq_true rfl) rfl rfl eM_51 ⟨by decide, by decide⟩ dX12_init_215 ?_
  obtain ⟨M_52, eM_52, hf⟩ := zl_some hf
  refine z_putF fl_X12_87 rfl rfl rfl rfl (Or.inr ⟨_, rfl⟩) (Or.inr ⟨by decide, _, rfl⟩) eM_52 dX12_init_217 ?_
  refine z_aload_n dX12_init_220 rfl rfl ?_
  obtain ⟨g_53, hf⟩ := z_ifs hf
  refine zgR fl_X12_7 (Or.inl ⟨by decide, rfl⟩) (fun _ => rfl) g_53 dX12_init_221 (fun _ => ?_)
  refine z_sipush (v := 698) dX12_init_224 (by decide) ?_
  refine z_iconst (v := 1) dX12_init_227 (by decide) ?_
  obtain ⟨g_54, hf⟩ := z_ifs hf
  obtain ⟨M_55, eM_55, hf⟩ := zl_some hf
  refine z_iast (Or.inr ⟨by decide, _, rfl⟩) g_54 eM_55 dX12_init_228 ?_
  refine z_iconst (v := 0) dX12_init_229 (by decide) ?_
  refine z_istore_n' (lv' := [(1, .int 0), (0, .ref 54)]) rfl dX12_init_230 (by decide) rfl rfl ?_
  refine zA.pick [(0, .ref 54), (1, .int 0)] [1, 0] rfl ?_
  exact t_X12_init_231 (Or.inl ⟨by decide, rfl⟩) zF 0 M_55 hf
