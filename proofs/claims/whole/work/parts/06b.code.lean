noncomputable def f_X5_readCondition_7 (c_X5_readCondition : Nat → Int32 → zM → Option (Unit × zM)) (c_X5_readPart : Nat → Int32 → zM → Option (Unit × zM)) (c_X5_readTest : Nat → Int32 → zM → Option (Unit × zM)) (c_X5_readAmount : Nat → Int32 → zM → Option (Unit × zM)) (c_X5_readTerm : Nat → Int32 → zM → Option (Unit × zM)) (c_X5_readFactor : Nat → Int32 → zM → Option (Unit × zM)) (x0 : Nat) (x1 : Int32) : Nat → Int32 → zM → Option (Unit × zM)
  | 0, _, _ => none
  | n + 1, x2, M =>
    (if 240 ≤ x2 then some ((), M) else z_rd (M.2.1 x0 0) fun a_2 => z_call (f_X10_sign a_2 M) fun v_3 M_4 => (if v_3 = 124 then z_rd (M_4.2.1 x0 0) fun a_7 => z_call (f_X10_step a_7 M_4) fun v_8 M_9 => z_rd (M_9.2.1 x0 1) fun a_11 => z_call (f_X4_add a_11 124 0 M_9) fun v_12 M_13 => z_call (c_X5_readPart x0 x1 M_13) fun v_15 M_16 => z_rd (M_16.2.1 x0 1) fun a_18 => z_call (f_X4_leadToHere a_18 v_12 M_16) fun v_19 M_20 => zl (x2 + 1) fun x2_22 => (f_X5_readCondition_7 c_X5_readCondition c_X5_readPart c_X5_readTest c_X5_readAmount c_X5_readTerm c_X5_readFactor x0 x1 n x2_22 M_20) else some ((), M_4)))
set_option maxHeartbeats 2000000 in
set_option maxRecDepth 20000 in
theorem t_X5_readCondition_7 {l : Launch} {dd : Nat} {c_X5_readCondition : Nat → Int32 → zM → Option (Unit × zM)} {c_X5_readPart : Nat → Int32 → zM → Option (Unit × zM)} {c_X5_readTest : Nat → Int32 → zM → Option (Unit × zM)} {c_X5_readAmount : Nat → Int32 → zM → Option (Unit × zM)} {c_X5_readTerm : Nat → Int32 → zM → Option (Unit × zM)} {c_X5_readFactor : Nat → Int32 → zM → Option (Unit × zM)} {x0 : Nat} {x1 : Int32} {MO : zM} {v : Unit} (hc_X5_readCondition : ∀ (x0 : Nat) (x1 : Int32) (M : zM) (v : Unit) (MO : zM), z_tm SH 5 x0 → c_X5_readCondition x0 x1 M = some (v, MO) → zMet l yX5_readCondition cX5_readCondition 4 none (dd + 8) 0 0 [.ref x0, .int x1] SH M (zDv SH MO)) (hc_X5_readPart : ∀ (x0 : Nat) (x1 : Int32) (M : zM) (v : Unit) (MO : zM), z_tm SH 5 x0 → c_X5_readPart x0 x1 M = some (v, MO) → zMet l yX5_readPart cX5_readPart 4 none (dd + 8) 0 0 [.ref x0, .int x1] SH M (zDv SH MO)) (hc_X5_readTest : ∀ (x0 : Nat) (x1 : Int32) (M : zM) (v : Unit) (MO : zM), z_tm SH 5 x0 → c_X5_readTest x0 x1 M = some (v, MO) → zMet l yX5_readTest cX5_readTest 4 none (dd + 8) 0 0 [.ref x0, .int x1] SH M (zDv SH MO)) (hc_X5_readAmount : ∀ (x0 : Nat) (x1 : Int32) (M : zM) (v : Unit) (MO : zM), z_tm SH 5 x0 → c_X5_readAmount x0 x1 M = some (v, MO) → zMet l yX5_readAmount cX5_readAmount 4 none (dd + 8) 0 0 [.ref x0, .int x1] SH M (zDv SH MO)) (hc_X5_readTerm : ∀ (x0 : Nat) (x1 : Int32) (M : zM) (v : Unit) (MO : zM), z_tm SH 5 x0 → c_X5_readTerm x0 x1 M = some (v, MO) → zMet l yX5_readTerm cX5_readTerm 4 none (dd + 8) 0 0 [.ref x0, .int x1] SH M (zDv SH MO)) (hc_X5_readFactor : ∀ (x0 : Nat) (x1 : Int32) (M : zM) (v : Unit) (MO : zM), z_tm SH 5 x0 → c_X5_readFactor x0 x1 M = some (v, MO) → zMet l yX5_readFactor cX5_readFactor 3 none (dd + 8) 0 0 [.ref x0, .int x1] SH M (zDv SH MO)) (h0 : z_tm SH 5 x0) : ∀ (n : Nat) (x2 : Int32) (M : zM), f_X5_readCondition_7 c_X5_readCondition c_X5_readPart c_X5_readTest c_X5_readAmount c_X5_readTerm c_X5_readFactor x0 x1 n x2 M = some (v, MO) → zA l yX5_readCondition cX5_readCondition 4 none (dd + 9) 0 0 SH.length (zDv SH MO) 0 0 7 [(0, .ref x0), (1, .int x1), (2, .int x2)] [] SH M := by
  intro n
  induction n with
  | zero =>
    intro x2 M hf
    rw [f_X5_readCondition_7] at hf
    cases hf
  | succ n ih =>
    intro x2 M hf
    rw [f_X5_readCondition_7] at hf
    refine z_iload_n dX5_readCondition_7 rfl rfl ?_
    refine z_sipush (v := 240) dX5_readCondition_8 (by decide) ?_
    refine z_icmp_ge (tgt := 63) dX5_readCondition_11 (by decide) (fun q_1 => ?_) (fun q_1 => ?_)
    · have hf := (if_pos q_1).symm.trans hf
      obtain ⟨rfl, rfl⟩ := z_end hf
      exact z_vret ⟨rfl, rfl, rfl⟩ rfl dX5_readCondition_63
    · have hf := (if_neg q_1).symm.trans hf
      refine z_aload_n dX5_readCondition_14 rfl rfl ?_
      obtain ⟨a_2, ra_2, hf⟩ := z_rd_some hf
      refine zgR fl_X5_9 h0 (fun _ => rfl) ra_2 dX5_readCondition_15 (fun ha_2 => ?_)
      obtain ⟨v_3, M_4, c_5, hf⟩ := z_call_some hf
      refine z_cVi (t_X10_sign ha_2 c_5) kw_X10_sign lk_X5_37 ha_2 rfl (by omega) rfl (Nat.le_of_ble_eq_true rfl) ⟨Nat.le_refl 0, Nat.le_refl 0⟩ dX5_readCondition_18 ?_
      refine z_bipush (v := 124) dX5_readCondition_21 (by decide) ?_
      refine z_icmp_ne (tgt := 63) dX5_readCondition_23 (by decide) (fun q_6 => ?_) (fun q_6 => ?_)
      · have hf := (if_neg q_6).symm.trans hf
        obtain ⟨rfl, rfl⟩ := z_end hf
        exact z_vret ⟨rfl, rfl, rfl⟩ rfl dX5_readCondition_63
      · have hf := (if_pos q_6).symm.trans hf
        refine z_aload_n dX5_readCondition_26 rfl rfl ?_
        obtain ⟨a_7, ra_7, hf⟩ := z_rd_some hf
        refine zgR fl_X5_9 h0 (fun _ => rfl) ra_7 dX5_readCondition_27 (fun ha_7 => ?_)
        obtain ⟨v_8, M_9, c_10, hf⟩ := z_call_some hf
        refine z_cVv (t_X10_step ha_7 c_10) kw_X10_step lk_X5_52 ha_7 rfl (by omega) rfl (Nat.le_of_ble_eq_true rfl) ⟨Nat.le_refl 0, Nat.le_refl 0⟩ dX5_readCondition_30 ?_
        refine z_aload_n dX5_readCondition_33 rfl rfl ?_
        obtain ⟨a_11, ra_11, hf⟩ := z_rd_some hf
        refine zgR fl_X5_15 h0 (fun _ => rfl) ra_11 dX5_readCondition_34 (fun ha_11 => ?_)
        refine z_bipush (v := 124) dX5_readCondition_37 (by decide) ?_
        refine z_iconst (v := 0) dX5_readCondition_39 (by decide) ?_
        obtain ⟨v_12, M_13, c_14, hf⟩ := z_call_some hf
        refine z_cVi (t_X4_add ha_11 c_14) kw_X4_add lk_X5_71 ha_11 rfl (by omega) rfl (Nat.le_of_ble_eq_true rfl) ⟨Nat.le_refl 0, Nat.le_refl 0⟩ dX5_readCondition_40 ?_
        refine z_istore_n' (lv' := [(3, .int v_12), (0, .ref x0), (1, .int x1), (2, .int x2)]) rfl dX5_readCondition_43 (by decide) rfl rfl ?_
        refine z_aload_n dX5_readCondition_44 rfl rfl ?_
        refine z_iload_n dX5_readCondition_45 rfl rfl ?_
        obtain ⟨v_15, M_16, c_17, hf⟩ := z_call_some hf
        refine z_cVv (hc_X5_readPart _ _ _ _ _ h0 c_17) kw_X5_readPart lk_X5_68 h0 rfl (by omega) rfl (Nat.le_of_ble_eq_true rfl) ⟨Nat.le_refl 0, Nat.le_refl 0⟩ dX5_readCondition_46 ?_
        refine z_aload_n dX5_readCondition_49 rfl rfl ?_
        obtain ⟨a_18, ra_18, hf⟩ := z_rd_some hf
        refine zgR fl_X5_15 h0 (fun _ => rfl) ra_18 dX5_readCondition_50 (fun ha_18 => ?_)
        refine z_iload_n dX5_readCondition_53 rfl rfl ?_
        obtain ⟨v_19, M_20, c_21, hf⟩ := z_call_some hf
        refine z_cVv (t_X4_leadToHere ha_18 c_21) kw_X4_leadToHere lk_X5_75 ha_18 rfl (by omega) rfl (Nat.le_of_ble_eq_true rfl) ⟨Nat.le_refl 0, Nat.le_refl 0⟩ dX5_readCondition_54 ?_
        obtain ⟨x2_22, ex2_22, hf⟩ := zl_some hf
        refine z_iinc' (lv' := [(2, .int x2_22), (3, .int v_12), (0, .ref x0), (1, .int x1)]) dX5_readCondition_57 rfl (by decide) ex2_22 (by decide) rfl ?_
        refine z_goto (tgt := 7) dX5_readCondition_60 (by decide) ?_
        refine zA.pick [(0, .ref x0), (1, .int x1), (2, .int x2_22)] [2, 3, 0] rfl ?_
        exact ih x2_22 M_20 hf
noncomputable def f_X5_readCondition (c_X5_readCondition : Nat → Int32 → zM → Option (Unit × zM)) (c_X5_readPart : Nat → Int32 → zM → Option (Unit × zM)) (c_X5_readTest : Nat → Int32 → zM → Option (Unit × zM)) (c_X5_readAmount : Nat → Int32 → zM → Option (Unit × zM)) (c_X5_readTerm : Nat → Int32 → zM → Option (Unit × zM)) (c_X5_readFactor : Nat → Int32 → zM → Option (Unit × zM)) (x0 : Nat) (x1 : Int32) (M : zM) : Option (Unit × zM) :=
  z_call (c_X5_readPart x0 x1 M) fun v_1 M_2 => (f_X5_readCondition_7 c_X5_readCondition c_X5_readPart c_X5_readTest c_X5_readAmount c_X5_readTerm c_X5_readFactor x0 x1 zF 0 M_2)
set_option maxHeartbeats 2000000 in
set_option maxRecDepth 20000 in
theorem t_X5_readCondition {l : Launch} {dd : Nat} {c_X5_readCondition : Nat → Int32 → zM → Option (Unit × zM)} {c_X5_readPart : Nat → Int32 → zM → Option (Unit × zM)} {c_X5_readTest : Nat → Int32 → zM → Option (Unit × zM)} {c_X5_readAmount : Nat → Int32 → zM → Option (Unit × zM)} {c_X5_readTerm : Nat → Int32 → zM → Option (Unit × zM)} {c_X5_readFactor : Nat → Int32 → zM → Option (Unit × zM)} {x0 : Nat} {x1 : Int32} {M MO : zM} {v : Unit} (hc_X5_readCondition : ∀ (x0 : Nat) (x1 : Int32) (M : zM) (v : Unit) (MO : zM), z_tm SH 5 x0 → c_X5_readCondition x0 x1 M = some (v, MO) → zMet l yX5_readCondition cX5_readCondition 4 none (dd + 8) 0 0 [.ref x0, .int x1] SH M (zDv SH MO)) (hc_X5_readPart : ∀ (x0 : Nat) (x1 : Int32) (M : zM) (v : Unit) (MO : zM), z_tm SH 5 x0 → c_X5_readPart x0 x1 M = some (v, MO) → zMet l yX5_readPart cX5_readPart 4 none (dd + 8) 0 0 [.ref x0, .int x1] SH M (zDv SH MO)) (hc_X5_readTest : ∀ (x0 : Nat) (x1 : Int32) (M : zM) (v : Unit) (MO : zM), z_tm SH 5 x0 → c_X5_readTest x0 x1 M = some (v, MO) → zMet l yX5_readTest cX5_readTest 4 none (dd + 8) 0 0 [.ref x0, .int x1] SH M (zDv SH MO)) (hc_X5_readAmount : ∀ (x0 : Nat) (x1 : Int32) (M : zM) (v : Unit) (MO : zM), z_tm SH 5 x0 → c_X5_readAmount x0 x1 M = some (v, MO) → zMet l yX5_readAmount cX5_readAmount 4 none (dd + 8) 0 0 [.ref x0, .int x1] SH M (zDv SH MO)) (hc_X5_readTerm : ∀ (x0 : Nat) (x1 : Int32) (M : zM) (v : Unit) (MO : zM), z_tm SH 5 x0 → c_X5_readTerm x0 x1 M = some (v, MO) → zMet l yX5_readTerm cX5_readTerm 4 none (dd + 8) 0 0 [.ref x0, .int x1] SH M (zDv SH MO)) (hc_X5_readFactor : ∀ (x0 : Nat) (x1 : Int32) (M : zM) (v : Unit) (MO : zM), z_tm SH 5 x0 → c_X5_readFactor x0 x1 M = some (v, MO) → zMet l yX5_readFactor cX5_readFactor 3 none (dd + 8) 0 0 [.ref x0, .int x1] SH M (zDv SH MO)) (h0 : z_tm SH 5 x0) (hf : f_X5_readCondition c_X5_readCondition c_X5_readPart c_X5_readTest c_X5_readAmount c_X5_readTerm c_X5_readFactor x0 x1 M = some (v, MO)) : zMet l yX5_readCondition cX5_readCondition 4 none (dd + 9) 0 0 [.ref x0, .int x1] SH M (zDv SH MO) := by
  refine zMet.of (by decide +kernel) (Nat.le_of_ble_eq_true rfl) (Or.inl rfl) ?_
  show zA l yX5_readCondition cX5_readCondition 4 none (dd + 9) 0 0 SH.length (zDv SH MO) 0 0 0 [(0, .ref x0), (1, .int x1)] [] SH M
  unfold f_X5_readCondition at hf
  refine z_aload_n dX5_readCondition_0 rfl rfl ?_
  refine z_iload_n dX5_readCondition_1 rfl rfl ?_
  obtain ⟨v_1, M_2, c_3, hf⟩ := z_call_some hf
  refine z_cVv (hc_X5_readPart _ _ _ _ _ h0 c_3) kw_X5_readPart lk_X5_68 h0 rfl (by omega) rfl (Nat.le_of_ble_eq_true rfl) ⟨Nat.le_refl 0, Nat.le_refl 0⟩ dX5_readCondition_2 ?_
  refine z_iconst (v := 0) dX5_readCondition_5 (by decide) ?_
  refine z_istore_n' (lv' := [(2, .int 0), (0, .ref x0), (1, .int x1)]) rfl dX5_readCondition_6 (by decide) rfl rfl ?_
  refine zA.pick [(0, .ref x0), (1, .int x1), (2, .int 0)] [1, 2, 0] rfl ?_
  exact t_X5_readCondition_7 hc_X5_readCondition hc_X5_readPart hc_X5_readTest hc_X5_readAmount hc_X5_readTerm hc_X5_readFactor h0 zF 0 M_2 hf
noncomputable def f_X5_readPart_7 (c_X5_readCondition : Nat → Int32 → zM → Option (Unit × zM)) (c_X5_readPart : Nat → Int32 → zM → Option (Unit × zM)) (c_X5_readTest : Nat → Int32 → zM → Option (Unit × zM)) (c_X5_readAmount : Nat → Int32 → zM → Option (Unit × zM)) (c_X5_readTerm : Nat → Int32 → zM → Option (Unit × zM)) (c_X5_readFactor : Nat → Int32 → zM → Option (Unit × zM)) (x0 : Nat) (x1 : Int32) : Nat → Int32 → zM → Option (Unit × zM)
  | 0, _, _ => none
  | n + 1, x2, M =>
    (if 240 ≤ x2 then some ((), M) else z_rd (M.2.1 x0 0) fun a_2 => z_call (f_X10_sign a_2 M) fun v_3 M_4 => (if v_3 = 38 then z_rd (M_4.2.1 x0 0) fun a_7 => z_call (f_X10_step a_7 M_4) fun v_8 M_9 => z_rd (M_9.2.1 x0 1) fun a_11 => z_call (f_X4_add a_11 38 0 M_9) fun v_12 M_13 => z_call (c_X5_readTest x0 x1 M_13) fun v_15 M_16 => z_rd (M_16.2.1 x0 1) fun a_18 => z_call (f_X4_leadToHere a_18 v_12 M_16) fun v_19 M_20 => zl (x2 + 1) fun x2_22 => (f_X5_readPart_7 c_X5_readCondition c_X5_readPart c_X5_readTest c_X5_readAmount c_X5_readTerm c_X5_readFactor x0 x1 n x2_22 M_20) else some ((), M_4)))
set_option maxHeartbeats 2000000 in
set_option maxRecDepth 20000 in
theorem t_X5_readPart_7 {l : Launch} {dd : Nat} {c_X5_readCondition : Nat → Int32 → zM → Option (Unit × zM)} {c_X5_readPart : Nat → Int32 → zM → Option (Unit × zM)} {c_X5_readTest : Nat → Int32 → zM → Option (Unit × zM)} {c_X5_readAmount : Nat → Int32 → zM → Option (Unit × zM)} {c_X5_readTerm : Nat → Int32 → zM → Option (Unit × zM)} {c_X5_readFactor : Nat → Int32 → zM → Option (Unit × zM)} {x0 : Nat} {x1 : Int32} {MO : zM} {v : Unit} (hc_X5_readCondition : ∀ (x0 : Nat) (x1 : Int32) (M : zM) (v : Unit) (MO : zM), z_tm SH 5 x0 → c_X5_readCondition x0 x1 M = some (v, MO) → zMet l yX5_readCondition cX5_readCondition 4 none (dd + 8) 0 0 [.ref x0, .int x1] SH M (zDv SH MO)) (hc_X5_readPart : ∀ (x0 : Nat) (x1 : Int32) (M : zM) (v : Unit) (MO : zM), z_tm SH 5 x0 → c_X5_readPart x0 x1 M = some (v, MO) → zMet l yX5_readPart cX5_readPart 4 none (dd + 8) 0 0 [.ref x0, .int x1] SH M (zDv SH MO)) (hc_X5_readTest : ∀ (x0 : Nat) (x1 : Int32) (M : zM) (v : Unit) (MO : zM), z_tm SH 5 x0 → c_X5_readTest x0 x1 M = some (v, MO) → zMet l yX5_readTest cX5_readTest 4 none (dd + 8) 0 0 [.ref x0, .int x1] SH M (zDv SH MO)) (hc_X5_readAmount : ∀ (x0 : Nat) (x1 : Int32) (M : zM) (v : Unit) (MO : zM), z_tm SH 5 x0 → c_X5_readAmount x0 x1 M = some (v, MO) → zMet l yX5_readAmount cX5_readAmount 4 none (dd + 8) 0 0 [.ref x0, .int x1] SH M (zDv SH MO)) (hc_X5_readTerm : ∀ (x0 : Nat) (x1 : Int32) (M : zM) (v : Unit) (MO : zM), z_tm SH 5 x0 → c_X5_readTerm x0 x1 M = some (v, MO) → zMet l yX5_readTerm cX5_readTerm 4 none (dd + 8) 0 0 [.ref x0, .int x1] SH M (zDv SH MO)) (hc_X5_readFactor : ∀ (x0 : Nat) (x1 : Int32) (M : zM) (v : Unit) (MO : zM), z_tm SH 5 x0 → c_X5_readFactor x0 x1 M = some (v, MO) → zMet l yX5_readFactor cX5_readFactor 3 none (dd + 8) 0 0 [.ref x0, .int x1] SH M (zDv SH MO)) (h0 : z_tm SH 5 x0) : ∀ (n : Nat) (x2 : Int32) (M : zM), f_X5_readPart_7 c_X5_readCondition c_X5_readPart c_X5_readTest c_X5_readAmount c_X5_readTerm c_X5_readFactor x0 x1 n x2 M = some (v, MO) → zA l yX5_readPart cX5_readPart 4 none (dd + 9) 0 0 SH.length (zDv SH MO) 0 0 7 [(0, .ref x0), (1, .int x1), (2, .int x2)] [] SH M := by
  intro n
  induction n with
  | zero =>
    intro x2 M hf
    rw [f_X5_readPart_7] at hf
    cases hf
  | succ n ih =>
    intro x2 M hf
    rw [f_X5_readPart_7] at hf
    refine z_iload_n dX5_readPart_7 rfl rfl ?_
    refine z_sipush (v := 240) dX5_readPart_8 (by decide) ?_
    refine z_icmp_ge (tgt := 63) dX5_readPart_11 (by decide) (fun q_1 => ?_) (fun q_1 => ?_)
    · have hf := (if_pos q_1).symm.trans hf
      obtain ⟨rfl, rfl⟩ := z_end hf
      exact z_vret ⟨rfl, rfl, rfl⟩ rfl dX5_readPart_63
    · have hf := (if_neg q_1).symm.trans hf
      refine z_aload_n dX5_readPart_14 rfl rfl ?_
      obtain ⟨a_2, ra_2, hf⟩ := z_rd_some hf
      refine zgR fl_X5_9 h0 (fun _ => rfl) ra_2 dX5_readPart_15 (fun ha_2 => ?_)
      obtain ⟨v_3, M_4, c_5, hf⟩ := z_call_some hf
      refine z_cVi (t_X10_sign ha_2 c_5) kw_X10_sign lk_X5_37 ha_2 rfl (by omega) rfl (Nat.le_of_ble_eq_true rfl) ⟨Nat.le_refl 0, Nat.le_refl 0⟩ dX5_readPart_18 ?_
      refine z_bipush (v := 38) dX5_readPart_21 (by decide) ?_
      refine z_icmp_ne (tgt := 63) dX5_readPart_23 (by decide) (fun q_6 => ?_) (fun q_6 => ?_)
      · have hf := (if_neg q_6).symm.trans hf
        obtain ⟨rfl, rfl⟩ := z_end hf
        exact z_vret ⟨rfl, rfl, rfl⟩ rfl dX5_readPart_63
      · have hf := (if_pos q_6).symm.trans hf
        refine z_aload_n dX5_readPart_26 rfl rfl ?_
        obtain ⟨a_7, ra_7, hf⟩ := z_rd_some hf
        refine zgR fl_X5_9 h0 (fun _ => rfl) ra_7 dX5_readPart_27 (fun ha_7 => ?_)
        obtain ⟨v_8, M_9, c_10, hf⟩ := z_call_some hf
        refine z_cVv (t_X10_step ha_7 c_10) kw_X10_step lk_X5_52 ha_7 rfl (by omega) rfl (Nat.le_of_ble_eq_true rfl) ⟨Nat.le_refl 0, Nat.le_refl 0⟩ dX5_readPart_30 ?_
        refine z_aload_n dX5_readPart_33 rfl rfl ?_
        obtain ⟨a_11, ra_11, hf⟩ := z_rd_some hf
        refine zgR fl_X5_15 h0 (fun _ => rfl) ra_11 dX5_readPart_34 (fun ha_11 => ?_)
        refine z_bipush (v := 38) dX5_readPart_37 (by decide) ?_
        refine z_iconst (v := 0) dX5_readPart_39 (by decide) ?_
        obtain ⟨v_12, M_13, c_14, hf⟩ := z_call_some hf
        refine z_cVi (t_X4_add ha_11 c_14) kw_X4_add lk_X5_71 ha_11 rfl (by omega) rfl (Nat.le_of_ble_eq_true rfl) ⟨Nat.le_refl 0, Nat.le_refl 0⟩ dX5_readPart_40 ?_
        refine z_istore_n' (lv' := [(3, .int v_12), (0, .ref x0), (1, .int x1), (2, .int x2)]) rfl dX5_readPart_43 (by decide) rfl rfl ?_
        refine z_aload_n dX5_readPart_44 rfl rfl ?_
        refine z_iload_n dX5_readPart_45 rfl rfl ?_
        obtain ⟨v_15, M_16, c_17, hf⟩ := z_call_some hf
        refine z_cVv (hc_X5_readTest _ _ _ _ _ h0 c_17) kw_X5_readTest lk_X5_78 h0 rfl (by omega) rfl (Nat.le_of_ble_eq_true rfl) ⟨Nat.le_refl 0, Nat.le_refl 0⟩ dX5_readPart_46 ?_
        refine z_aload_n dX5_readPart_49 rfl rfl ?_
        obtain ⟨a_18, ra_18, hf⟩ := z_rd_some hf
        refine zgR fl_X5_15 h0 (fun _ => rfl) ra_18 dX5_readPart_50 (fun ha_18 => ?_)
        refine z_iload_n dX5_readPart_53 rfl rfl ?_
        obtain ⟨v_19, M_20, c_21, hf⟩ := z_call_some hf
        refine z_cVv (t_X4_leadToHere ha_18 c_21) kw_X4_leadToHere lk_X5_75 ha_18 rfl (by omega) rfl (Nat.le_of_ble_eq_true rfl) ⟨Nat.le_refl 0, Nat.le_refl 0⟩ dX5_readPart_54 ?_
        obtain ⟨x2_22, ex2_22, hf⟩ := zl_some hf
        refine z_iinc' (lv' := [(2, .int x2_22), (3, .int v_12), (0, .ref x0), (1, .int x1)]) dX5_readPart_57 rfl (by decide) ex2_22 (by decide) rfl ?_
        refine z_goto (tgt := 7) dX5_readPart_60 (by decide) ?_
        refine zA.pick [(0, .ref x0), (1, .int x1), (2, .int x2_22)] [2, 3, 0] rfl ?_
        exact ih x2_22 M_20 hf
noncomputable def f_X5_readPart (c_X5_readCondition : Nat → Int32 → zM → Option (Unit × zM)) (c_X5_readPart : Nat → Int32 → zM → Option (Unit × zM)) (c_X5_readTest : Nat → Int32 → zM → Option (Unit × zM)) (c_X5_readAmount : Nat → Int32 → zM → Option (Unit × zM)) (c_X5_readTerm : Nat → Int32 → zM → Option (Unit × zM)) (c_X5_readFactor : Nat → Int32 → zM → Option (Unit × zM)) (x0 : Nat) (x1 : Int32) (M : zM) : Option (Unit × zM) :=
  z_call (c_X5_readTest x0 x1 M) fun v_1 M_2 => (f_X5_readPart_7 c_X5_readCondition c_X5_readPart c_X5_readTest c_X5_readAmount c_X5_readTerm c_X5_readFactor x0 x1 zF 0 M_2)
set_option maxHeartbeats 2000000 in
set_option maxRecDepth 20000 in
theorem t_X5_readPart {l : Launch} {dd : Nat} {c_X5_readCondition : Nat → Int32 → zM → Option (Unit × zM)} {c_X5_readPart : Nat → Int32 → zM → Option (Unit × zM)} {c_X5_readTest : Nat → Int32 → zM → Option (Unit × zM)} {c_X5_readAmount : Nat → Int32 → zM → Option (Unit × zM)} {c_X5_readTerm : Nat → Int32 → zM → Option (Unit × zM)} {c_X5_readFactor : Nat → Int32 → zM → Option (Unit × zM)} {x0 : Nat} {x1 : Int32} {M MO : zM} {v : Unit} (hc_X5_readCondition : ∀ (x0 : Nat) (x1 : Int32) (M : zM) (v : Unit) (MO : zM), z_tm SH 5 x0 → c_X5_readCondition x0 x1 M = some (v, MO) → zMet l yX5_readCondition cX5_readCondition 4 none (dd + 8) 0 0 [.ref x0, .int x1] SH M (zDv SH MO)) (hc_X5_readPart : ∀ (x0 : Nat) (x1 : Int32) (M : zM) (v : Unit) (MO : zM), z_tm SH 5 x0 → c_X5_readPart x0 x1 M = some (v, MO) → zMet l yX5_readPart cX5_readPart 4 none (dd + 8) 0 0 [.ref x0, .int x1] SH M (zDv SH MO)) (hc_X5_readTest : ∀ (x0 : Nat) (x1 : Int32) (M : zM) (v : Unit) (MO : zM), z_tm SH 5 x0 → c_X5_readTest x0 x1 M = some (v, MO) → zMet l yX5_readTest cX5_readTest 4 none (dd + 8) 0 0 [.ref x0, .int x1] SH M (zDv SH MO)) (hc_X5_readAmount : ∀ (x0 : Nat) (x1 : Int32) (M : zM) (v : Unit) (MO : zM), z_tm SH 5 x0 → c_X5_readAmount x0 x1 M = some (v, MO) → zMet l yX5_readAmount cX5_readAmount 4 none (dd + 8) 0 0 [.ref x0, .int x1] SH M (zDv SH MO)) (hc_X5_readTerm : ∀ (x0 : Nat) (x1 : Int32) (M : zM) (v : Unit) (MO : zM), z_tm SH 5 x0 → c_X5_readTerm x0 x1 M = some (v, MO) → zMet l yX5_readTerm cX5_readTerm 4 none (dd + 8) 0 0 [.ref x0, .int x1] SH M (zDv SH MO)) (hc_X5_readFactor : ∀ (x0 : Nat) (x1 : Int32) (M : zM) (v : Unit) (MO : zM), z_tm SH 5 x0 → c_X5_readFactor x0 x1 M = some (v, MO) → zMet l yX5_readFactor cX5_readFactor 3 none (dd + 8) 0 0 [.ref x0, .int x1] SH M (zDv SH MO)) (h0 : z_tm SH 5 x0) (hf : f_X5_readPart c_X5_readCondition c_X5_readPart c_X5_readTest c_X5_readAmount c_X5_readTerm c_X5_readFactor x0 x1 M = some (v, MO)) : zMet l yX5_readPart cX5_readPart 4 none (dd + 9) 0 0 [.ref x0, .int x1] SH M (zDv SH MO) := by
  refine zMet.of (by decide +kernel) (Nat.le_of_ble_eq_true rfl) (Or.inl rfl) ?_
  show zA l yX5_readPart cX5_readPart 4 none (dd + 9) 0 0 SH.length (zDv SH MO) 0 0 0 [(0, .ref x0), (1, .int x1)] [] SH M
  unfold f_X5_readPart at hf
  refine z_aload_n dX5_readPart_0 rfl rfl ?_
  refine z_iload_n dX5_readPart_1 rfl rfl ?_
  obtain ⟨v_1, M_2, c_3, hf⟩ := z_call_some hf
  refine z_cVv (hc_X5_readTest _ _ _ _ _ h0 c_3) kw_X5_readTest lk_X5_78 h0 rfl (by omega) rfl (Nat.le_of_ble_eq_true rfl) ⟨Nat.le_refl 0, Nat.le_refl 0⟩ dX5_readPart_2 ?_
  refine z_iconst (v := 0) dX5_readPart_5 (by decide) ?_
  refine z_istore_n' (lv' := [(2, .int 0), (0, .ref x0), (1, .int x1)]) rfl dX5_readPart_6 (by decide) rfl rfl ?_
  refine zA.pick [(0, .ref x0), (1, .int x1), (2, .int 0)] [1, 2, 0] rfl ?_
  exact t_X5_readPart_7 hc_X5_readCondition hc_X5_readPart hc_X5_readTest hc_X5_readAmount hc_X5_readTerm hc_X5_readFactor h0 zF 0 M_2 hf
noncomputable def f_X5_readTest_119 (c_X5_readCondition : Nat → Int32 → zM → Option (Unit × zM)) (c_X5_readPart : Nat → Int32 → zM → Option (Unit × zM)) (c_X5_readTest : Nat → Int32 → zM → Option (Unit × zM)) (c_X5_readAmount : Nat → Int32 → zM → Option (Unit × zM)) (c_X5_readTerm : Nat → Int32 → zM → Option (Unit × zM)) (c_X5_readFactor : Nat → Int32 → zM → Option (Unit × zM)) (x0 : Nat) (x1 : Int32) (x3 : Int32) (M : zM) : Option (Unit × zM) :=
  z_rd (M.2.1 x0 0) fun a_1 => z_call (f_X10_step a_1 M) fun v_2 M_3 => z_call (c_X5_readAmount x0 x1 M_3) fun v_5 M_6 => z_rd (M_6.2.1 x0 1) fun a_8 => z_call (f_X4_add a_8 x3 0 M_6) fun v_9 M_10 => some ((), M_10)
set_option maxHeartbeats 2000000 in
set_option maxRecDepth 20000 in
theorem t_X5_readTest_119 {l : Launch} {dd : Nat} {c_X5_readCondition : Nat → Int32 → zM → Option (Unit × zM)} {c_X5_readPart : Nat → Int32 → zM → Option (Unit × zM)} {c_X5_readTest : Nat → Int32 → zM → Option (Unit × zM)} {c_X5_readAmount : Nat → Int32 → zM → Option (Unit × zM)} {c_X5_readTerm : Nat → Int32 → zM → Option (Unit × zM)} {c_X5_readFactor : Nat → Int32 → zM → Option (Unit × zM)} {x0 : Nat} {x1 : Int32} {x3 : Int32} {M MO : zM} {v : Unit} (hc_X5_readCondition : ∀ (x0 : Nat) (x1 : Int32) (M : zM) (v : Unit) (MO : zM), z_tm SH 5 x0 → c_X5_readCondition x0 x1 M = some (v, MO) → zMet l yX5_readCondition cX5_readCondition 4 none (dd + 8) 0 0 [.ref x0, .int x1] SH M (zDv SH MO)) (hc_X5_readPart : ∀ (x0 : Nat) (x1 : Int32) (M : zM) (v : Unit) (MO : zM), z_tm SH 5 x0 → c_X5_readPart x0 x1 M = some (v, MO) → zMet l yX5_readPart cX5_readPart 4 none (dd + 8) 0 0 [.ref x0, .int x1] SH M (zDv SH MO)) (hc_X5_readTest : ∀ (x0 : Nat) (x1 : Int32) (M : zM) (v : Unit) (MO : zM), z_tm SH 5 x0 → c_X5_readTest x0 x1 M = some (v, MO) → zMet l yX5_readTest cX5_readTest 4 none (dd + 8) 0 0 [.ref x0, .int x1] SH M (zDv SH MO)) (hc_X5_readAmount : ∀ (x0 : Nat) (x1 : Int32) (M : zM) (v : Unit) (MO : zM), z_tm SH 5 x0 → c_X5_readAmount x0 x1 M = some (v, MO) → zMet l yX5_readAmount cX5_readAmount 4 none (dd + 8) 0 0 [.ref x0, .int x1] SH M (zDv SH MO)) (hc_X5_readTerm : ∀ (x0 : Nat) (x1 : Int32) (M : zM) (v : Unit) (MO : zM), z_tm SH 5 x0 → c_X5_readTerm x0 x1 M = some (v, MO) → zMet l yX5_readTerm cX5_readTerm 4 none (dd + 8) 0 0 [.ref x0, .int x1] SH M (zDv SH MO)) (hc_X5_readFactor : ∀ (x0 : Nat) (x1 : Int32) (M : zM) (v : Unit) (MO : zM), z_tm SH 5 x0 → c_X5_readFactor x0 x1 M = some (v, MO) → zMet l yX5_readFactor cX5_readFactor 3 none (dd + 8) 0 0 [.ref x0, .int x1] SH M (zDv SH MO)) (h0 : z_tm SH 5 x0) (hf : f_X5_readTest_119 c_X5_readCondition c_X5_readPart c_X5_readTest c_X5_readAmount c_X5_readTerm c_X5_readFactor x0 x1 x3 M = some (v, MO)) : zA l yX5_readTest cX5_readTest 4 none (dd + 9) 0 0 SH.length (zDv SH MO) 0 0 119 [(0, .ref x0), (1, .int x1), (3, .int x3)] [] SH M := by
  unfold f_X5_readTest_119 at hf
  refine z_aload_n dX5_readTest_119 rfl rfl ?_
  obtain ⟨a_1, ra_1, hf⟩ := z_rd_some hf
  refine zgR fl_X5_9 h0 (fun _ => rfl) ra_1 dX5_readTest_120 (fun ha_1 => ?_)
  obtain ⟨v_2, M_3, c_4, hf⟩ := z_call_some hf
  refine z_cVv (t_X10_step ha_1 c_4) kw_X10_step lk_X5_52 ha_1 rfl (by omega) rfl (Nat.le_of_ble_eq_true rfl) ⟨Nat.le_refl 0, Nat.le_refl 0⟩ dX5_readTest_123 ?_
  refine z_aload_n dX5_readTest_126 rfl rfl ?_
  refine z_iload_n dX5_readTest_127 rfl rfl ?_
  obtain ⟨v_5, M_6, c_7, hf⟩ := z_call_some hf
  refine z_cVv (hc_X5_readAmount _ _ _ _ _ h0 c_7) kw_X5_readAmount lk_X5_58 h0 rfl (by omega) rfl (Nat.le_of_ble_eq_true rfl) ⟨Nat.le_refl 0, Nat.le_refl 0⟩ dX5_readTest_128 ?_
  refine z_aload_n dX5_readTest_131 rfl rfl ?_
  obtain ⟨a_8, ra_8, hf⟩ := z_rd_some hf
  refine zgR fl_X5_15 h0 (fun _ => rfl) ra_8 dX5_readTest_132 (fun ha_8 => ?_)
  refine z_iload_n dX5_readTest_135 rfl rfl ?_
  refine z_iconst (v := 0) dX5_readTest_136 (by decide) ?_
  obtain ⟨v_9, M_10, c_11, hf⟩ := z_call_some hf
  refine z_cVi (t_X4_add ha_8 c_11) kw_X4_add lk_X5_71 ha_8 rfl (by omega) rfl (Nat.le_of_ble_eq_true rfl) ⟨Nat.le_refl 0, Nat.le_refl 0⟩ dX5_readTest_137 ?_
  refine z_pop dX5_readTest_140 rfl ?_
  obtain ⟨rfl, rfl⟩ := z_end hf
  exact z_vret ⟨rfl, rfl, rfl⟩ rfl dX5_readTest_141
noncomputable def f_X5_readTest (c_X5_readCondition : Nat → Int32 → zM → Option (Unit × zM)) (c_X5_readPart : Nat → Int32 → zM → Option (Unit × zM)) (c_X5_readTest : Nat → Int32 → zM → Option (Unit × zM)) (c_X5_readAmount : Nat → Int32 → zM → Option (Unit × zM)) (c_X5_readTerm : Nat → Int32 → zM → Option (Unit × zM)) (c_X5_readFactor : Nat → Int32 → zM → Option (Unit × zM)) (x0 : Nat) (x1 : Int32) (M : zM) : Option (Unit × zM) :=
  z_rd (M.2.1 x0 0) fun a_1 => z_call (f_X10_sign a_1 M) fun v_2 M_3 => (if v_2 = 33 then z_call (f_X5_opens x0 x1 M_3) fun v_33 M_34 => (if v_33 = 0 then some ((), M_34) else z_call (c_X5_readTest x0 (x1 + 1) M_34) fun v_37 M_38 => z_rd (M_38.2.1 x0 1) fun a_40 => z_call (f_X4_add a_40 33 0 M_38) fun v_41 M_42 => some ((), M_42)) else (if v_2 = 40 then z_call (f_X5_opens x0 x1 M_3) fun v_22 M_23 => (if v_22 = 0 then some ((), M_23) else z_call (c_X5_readCondition x0 (x1 + 1) M_23) fun v_26 M_27 => z_rd (M_27.2.1 x0 0) fun a_29 => z_call (f_X10_expect a_29 41 M_27) fun v_30 M_31 => some ((), M_31)) else z_call (c_X5_readAmount x0 x1 M_3) fun v_7 M_8 => z_rd (M_8.2.1 x0 0) fun a_10 => z_call (f_X10_sign a_10 M_8) fun v_11 M_12 => (if v_11 = 60 then (f_X5_readTest_119 c_X5_readCondition c_X5_readPart c_X5_readTest c_X5_readAmount c_X5_readTerm c_X5_readFactor x0 x1 v_11 M_12) else (if v_11 = 62 then (f_X5_readTest_119 c_X5_readCondition c_X5_readPart c_X5_readTest c_X5_readAmount c_X5_readTerm c_X5_readFactor x0 x1 v_11 M_12) else (if v_11 = 61 then (f_X5_readTest_119 c_X5_readCondition c_X5_readPart c_X5_readTest c_X5_readAmount c_X5_readTerm c_X5_readFactor x0 x1 v_11 M_12) else z_rd (M_12.2.1 x0 0) fun a_17 => z_rd (M_12.2.1 x0 0) fun a_18 => z_call (f_X10_failAt a_17 1 (M_12.1 a_18 3) M_12) fun v_19 M_20 => some ((), M_20))))))
set_option maxHeartbeats 2000000 in
set_option maxRecDepth 20000 in
theorem t_X5_readTest {l : Launch} {dd : Nat} {c_X5_readCondition : Nat → Int32 → zM → Option (Unit × zM)} {c_X5_readPart : Nat → Int32 → zM → Option (Unit × zM)} {c_X5_readTest : Nat → Int32 → zM → Option (Unit × zM)} {c_X5_readAmount : Nat → Int32 → zM → Option (Unit × zM)} {c_X5_readTerm : Nat → Int32 → zM → Option (Unit × zM)} {c_X5_readFactor : Nat → Int32 → zM → Option (Unit × zM)} {x0 : Nat} {x1 : Int32} {M MO : zM} {v : Unit} (hc_X5_readCondition : ∀ (x0 : Nat) (x1 : Int32) (M : zM) (v : Unit) (MO : zM), z_tm SH 5 x0 → c_X5_readCondition x0 x1 M = some (v, MO) → zMet l yX5_readCondition cX5_readCondition 4 none (dd + 8) 0 0 [.ref x0, .int x1] SH M (zDv SH MO)) (hc_X5_readPart : ∀ (x0 : Nat) (x1 : Int32) (M : zM) (v : Unit) (MO : zM), z_tm SH 5 x0 → c_X5_readPart x0 x1 M = some (v, MO) → zMet l yX5_readPart cX5_readPart 4 none (dd + 8) 0 0 [.ref x0, .int x1] SH M (zDv SH MO)) (hc_X5_readTest : ∀ (x0 : Nat) (x1 : Int32) (M : zM) (v : Unit) (MO : zM), z_tm SH 5 x0 → c_X5_readTest x0 x1 M = some (v, MO) → zMet l yX5_readTest cX5_readTest 4 none (dd + 8) 0 0 [.ref x0, .int x1] SH M (zDv SH MO)) (hc_X5_readAmount : ∀ (x0 : Nat) (x1 : Int32) (M : zM) (v : Unit) (MO : zM), z_tm SH 5 x0 → c_X5_readAmount x0 x1 M = some (v, MO) → zMet l yX5_readAmount cX5_readAmount 4 none (dd + 8) 0 0 [.ref x0, .int x1] SH M (zDv SH MO)) (hc_X5_readTerm : ∀ (x0 : Nat) (x1 : Int32) (M : zM) (v : Unit) (MO : zM), z_tm SH 5 x0 → c_X5_readTerm x0 x1 M = some (v, MO) → zMet l yX5_readTerm cX5_readTerm 4 none (dd + 8) 0 0 [.ref x0, .int x1] SH M (zDv SH MO)) (hc_X5_readFactor : ∀ (x0 : Nat) (x1 : Int32) (M : zM) (v : Unit) (MO : zM), z_tm SH 5 x0 → c_X5_readFactor x0 x1 M = some (v, MO) → zMet l yX5_readFactor cX5_readFactor 3 none (dd + 8) 0 0 [.ref x0, .int x1] SH M (zDv SH MO)) (h0 : z_tm SH 5 x0) (hf : f_X5_readTest c_X5_readCondition c_X5_readPart c_X5_readTest c_X5_readAmount c_X5_readTerm c_X5_readFactor x0 x1 M = some (v, MO)) : zMet l yX5_readTest cX5_readTest 4 none (dd + 9) 0 0 [.ref x0, .int x1] SH M (zDv SH MO) := by
  refine zMet.of (by decide +kernel) (Nat.le_of_ble_eq_true rfl) (Or.inl rfl) ?_
  show zA l yX5_readTest cX5_readTest 4 none (dd + 9) 0 0 SH.length (zDv SH MO) 0 0 0 [(0, .ref x0), (1, .int x1)] [] SH M
  unfold f_X5_readTest at hf
  refine z_aload_n dX5_readTest_0 rfl rfl ?_
  obtain ⟨a_1, ra_1, hf⟩ := z_rd_some hf
  refine zgR fl_X5_9 h0 (fun _ => rfl) ra_1 dX5_readTest_1 (fun ha_1 => ?_)
  obtain ⟨v_2, M_3, c_4, hf⟩ := z_call_some hf
  refine z_cVi (t_X10_sign ha_1 c_4) kw_X10_sign lk_X5_37 ha_1 rfl (by omega) rfl (Nat.le_of_ble_eq_true rfl) ⟨Nat.le_refl 0, Nat.le_refl 0⟩ dX5_readTest_4 ?_
  refine z_istore_n' (lv' := [(2, .int v_2), (0, .ref x0), (1, .int x1)]) rfl dX5_readTest_7 (by decide) rfl rfl ?_
  refine z_iload_n dX5_readTest_8 rfl rfl ?_
  refine z_bipush (v := 33) dX5_readTest_9 (by decide) ?_
  refine z_icmp_ne (tgt := 41) dX5_readTest_11 (by decide) (fun q_5 => ?_) (fun q_5 => ?_)
  · have hf := (if_neg q_5).symm.trans hf
    refine z_iload_n dX5_readTest_41 rfl rfl ?_
    refine z_bipush (v := 40) dX5_readTest_42 (by decide) ?_
    refine z_icmp_ne (tgt := 72) dX5_readTest_44 (by decide) (fun q_6 => ?_) (fun q_6 => ?_)
    · have hf := (if_neg q_6).symm.trans hf
      refine z_aload_n dX5_readTest_72 rfl rfl ?_
      refine z_iload_n dX5_readTest_73 rfl rfl ?_
      obtain ⟨v_7, M_8, c_9, hf⟩ := z_call_some hf
      refine z_cVv (hc_X5_readAmount _ _ _ _ _ h0 c_9) kw_X5_readAmount lk_X5_58 h0 rfl (by omega) rfl (Nat.le_of_ble_eq_true rfl) ⟨Nat.le_refl 0, Nat.le_refl 0⟩ dX5_readTest_74 ?_
      refine z_aload_n dX5_readTest_77 rfl rfl ?_
      obtain ⟨a_10, ra_10, hf⟩ := z_rd_some hf
      refine zgR fl_X5_9 h0 (fun _ => rfl) ra_10 dX5_readTest_78 (fun ha_10 => ?_)
      obtain ⟨v_11, M_12, c_13, hf⟩ := z_call_some hf
      refine z_cVi (t_X10_sign ha_10 c_13) kw_X10_sign lk_X5_37 ha_10 rfl (by omega) rfl (Nat.le_of_ble_eq_true rfl) ⟨Nat.le_refl 0, Nat.le_refl 0⟩ dX5_readTest_81 ?_
      refine z_istore_n' (lv' := [(3, .int v_11), (2, .int v_2), (0, .ref x0), (1, .int x1)]) rfl dX5_readTest_84 (by decide) rfl rfl ?_
      refine z_iload_n dX5_readTest_85 rfl rfl ?_
      refine z_bipush (v := 60) dX5_readTest_86 (by decide) ?_
      refine z_icmp_eq (tgt := 119) dX5_readTest_88 (by decide) (fun q_14 => ?_) (fun q_14 => ?_)
      · have hf := (if_pos q_14).symm.trans hf
        refine zA.pick [(0, .ref x0), (1, .int x1), (3, .int v_11)] [2, 3, 0] rfl ?_
        exact t_X5_readTest_119 hc_X5_readCondition hc_X5_readPart hc_X5_readTest hc_X5_readAmount hc_X5_readTerm hc_X5_readFactor h0 hf
      · have hf := (if_neg q_14).symm.trans hf
        refine z_iload_n dX5_readTest_91 rfl rfl ?_
        refine z_bipush (v := 62) dX5_readTest_92 (by decide) ?_
        refine z_icmp_eq (tgt := 119) dX5_readTest_94 (by decide) (fun q_15 => ?_) (fun q_15 => ?_)
        · have hf := (if_pos q_15).symm.trans hf
          refine zA.pick [(0, .ref x0), (1, .int x1), (3, .int v_11)] [2, 3, 0] rfl ?_
          exact t_X5_readTest_119 hc_X5_readCondition hc_X5_readPart hc_X5_readTest hc_X5_readAmount hc_X5_readTerm hc_X5_readFactor h0 hf
        · have hf := (if_neg q_15).symm.trans hf
          refine z_iload_n dX5_readTest_97 rfl rfl ?_
          refine z_bipush (v := 61) dX5_readTest_98 (by decide) ?_
          refine z_icmp_eq (tgt := 119) dX5_readTest_100 (by decide) (fun q_16 => ?_) (fun q_16 => ?_)
          · have hf := (if_pos q_16).symm.trans hf
            refine zA.pick [(0, .ref x0), (1, .int x1), (3, .int v_11)] [2, 3, 0] rfl ?_
            exact t_X5_readTest_119 hc_X5_readCondition hc_X5_readPart hc_X5_readTest hc_X5_readAmount hc_X5_readTerm hc_X5_readFactor h0 hf
          · have hf := (if_neg q_16).symm.trans hf
            refine z_aload_n dX5_readTest_103 rfl rfl ?_
            obtain ⟨a_17, ra_17, hf⟩ := z_rd_some hf
            refine zgR fl_X5_9 h0 (fun _ => rfl) ra_17 dX5_readTest_104 (fun ha_17 => ?_)
            refine z_iconst (v := 1) dX5_readTest_107 (by decide) ?_
            refine z_aload_n dX5_readTest_108 rfl rfl ?_
            obtain ⟨a_18, ra_18, hf⟩ := z_rd_some hf
            refine zgR fl_X5_9 h0 (fun _ => rfl) ra_18 dX5_readTest_109 (fun ha_18 => ?_)
            refine zgI fl_X5_41 ha_18 (fun _ => rfl) dX5_readTest_112 ?_
            obtain ⟨v_19, M_20, c_21, hf⟩ := z_call_some hf
            refine z_cVv (t_X10_failAt ha_17 c_21) kw_X10_failAt lk_X5_45 ha_17 rfl (by omega) rfl (Nat.le_of_ble_eq_true rfl) ⟨Nat.le_refl 0, Nat.le_refl 0⟩ dX5_readTest_115 ?_
            obtain ⟨rfl, rfl⟩ := z_end hf
            exact z_vret ⟨rfl, rfl, rfl⟩ rfl dX5_readTest_118
    · have hf := (if_pos q_6).symm.trans hf
      refine z_aload_n dX5_readTest_47 rfl rfl ?_
      refine z_iload_n dX5_readTest_48 rfl rfl ?_
      obtain ⟨v_22, M_23, c_24, hf⟩ := z_call_some hf
      refine z_cVi (t_X5_opens h0 c_24) kw_X5_opens lk_X5_81 h0 rfl (by omega) rfl (Nat.le_of_ble_eq_true rfl) ⟨Nat.le_refl 0, Nat.le_refl 0⟩ dX5_readTest_49 ?_
      refine z_if_eq (tgt := 71) dX5_readTest_52 (by decide) (fun q_25 => ?_) (fun q_25 => ?_)
      · have hf := (if_pos q_25).symm.trans hf
        obtain ⟨rfl, rfl⟩ := z_end hf
        exact z_vret ⟨rfl, rfl, rfl⟩ rfl dX5_readTest_71
      · have hf := (if_neg q_25).symm.trans hf
        refine z_aload_n dX5_readTest_55 rfl rfl ?_
        refine z_iload_n dX5_readTest_56 rfl rfl ?_
        refine z_iconst (v := 1) dX5_readTest_57 (by decide) ?_
        refine z_iadd dX5_readTest_58 ?_
        obtain ⟨v_26, M_27, c_28, hf⟩ := z_call_some hf
        refine z_cVv (hc_X5_readCondition _ _ _ _ _ h0 c_28) kw_X5_readCondition lk_X5_61 h0 rfl (by omega) rfl (Nat.le_of_ble_eq_true rfl) ⟨Nat.le_refl 0, Nat.le_refl 0⟩ dX5_readTest_59 ?_
        refine z_aload_n dX5_readTest_62 rfl rfl ?_
        obtain ⟨a_29, ra_29, hf⟩ := z_rd_some hf
        refine zgR fl_X5_9 h0 (fun _ => rfl) ra_29 dX5_readTest_63 (fun ha_29 => ?_)
        refine z_bipush (v := 41) dX5_readTest_66 (by decide) ?_
        obtain ⟨v_30, M_31, c_32, hf⟩ := z_call_some hf
        refine z_cVv (t_X10_expect ha_29 c_32) kw_X10_expect lk_X5_33 ha_29 rfl (by omega) rfl (Nat.le_of_ble_eq_true rfl) ⟨Nat.le_refl 0, Nat.le_refl 0⟩ dX5_readTest_68 ?_
        obtain ⟨rfl, rfl⟩ := z_end hf
        exact z_vret ⟨rfl, rfl, rfl⟩ rfl dX5_readTest_71
  · have hf := (if_pos q_5).symm.trans hf
    refine z_aload_n dX5_readTest_14 rfl rfl ?_
    refine z_iload_n dX5_readTest_15 rfl rfl ?_
    obtain ⟨v_33, M_34, c_35, hf⟩ := z_call_some hf
    refine z_cVi (t_X5_opens h0 c_35) kw_X5_opens lk_X5_81 h0 rfl (by omega) rfl (Nat.le_of_ble_eq_true rfl) ⟨Nat.le_refl 0, Nat.le_refl 0⟩ dX5_readTest_16 ?_
    refine z_if_eq (tgt := 40) dX5_readTest_19 (by decide) (fun q_36 => ?_) (fun q_36 => ?_)
    · have hf := (if_pos q_36).symm.trans hf
      obtain ⟨rfl, rfl⟩ := z_end hf
      exact z_vret ⟨rfl, rfl, rfl⟩ rfl dX5_readTest_40
    · have hf := (if_neg q_36).symm.trans hf
      refine z_aload_n dX5_readTest_22 rfl rfl ?_
      refine z_iload_n dX5_readTest_23 rfl rfl ?_
      refine z_iconst (v := 1) dX5_readTest_24 (by decide) ?_
      refine z_iadd dX5_readTest_25 ?_
      obtain ⟨v_37, M_38, c_39, hf⟩ := z_call_some hf
      refine z_cVv (hc_X5_readTest _ _ _ _ _ h0 c_39) kw_X5_readTest lk_X5_78 h0 rfl (by omega) rfl (Nat.le_of_ble_eq_true rfl) ⟨Nat.le_refl 0, Nat.le_refl 0⟩ dX5_readTest_26 ?_
      refine z_aload_n dX5_readTest_29 rfl rfl ?_
      obtain ⟨a_40, ra_40, hf⟩ := z_rd_some hf
      refine zgR fl_X5_15 h0 (fun _ => rfl) ra_40 dX5_readTest_30 (fun ha_40 => ?_)
      refine z_bipush (v := 33) dX5_readTest_33 (by decide) ?_
      refine z_iconst (v := 0) dX5_readTest_35 (by decide) ?_
      obtain ⟨v_41, M_42, c_43, hf⟩ := z_call_some hf
      refine z_cVi (t_X4_add ha_40 c_43) kw_X4_add lk_X5_71 ha_40 rfl (by omega) rfl (Nat.le_of_ble_eq_true rfl) ⟨Nat.le_refl 0, Nat.le_refl 0⟩ dX5_readTest_36 ?_
      refine z_pop dX5_readTest_39 rfl ?_
      obtain ⟨rfl, rfl⟩ := z_end hf
      exact z_vret ⟨rfl, rfl, rfl⟩ rfl dX5_readTest_40
noncomputable def f_X5_readAmount_38 (c_X5_readCondition : Nat → Int32 → zM → Option (Unit × zM)) (c_X5_readPart : Nat → Int32 → zM → Option (Unit × zM)) (c_X5_readTest : Nat → Int32 → zM → Option (Unit × zM)) (c_X5_readAmount : Nat → Int32 → zM → Option (Unit × zM)) (c_X5_readTerm : Nat → Int32 → zM → Option (Unit × zM)) (c_X5_readFactor : Nat → Int32 → zM → Option (Unit × zM)) (x0 : Nat) (x1 : Int32) (k7 : Int32 → zM → Option (Unit × zM)) (x2 : Int32) (M : zM) : Option (Unit × zM) :=
  z_rd (M.2.1 x0 0) fun a_1 => z_call (f_X10_sign a_1 M) fun v_2 M_3 => z_rd (M_3.2.1 x0 0) fun a_5 => z_call (f_X10_step a_5 M_3) fun v_6 M_7 => z_call (c_X5_readTerm x0 x1 M_7) fun v_9 M_10 => z_rd (M_10.2.1 x0 1) fun a_12 => z_call (f_X4_add a_12 v_2 0 M_10) fun v_13 M_14 => zl (x2 + 1) fun x2_16 => (k7 x2_16 M_14)
set_option maxHeartbeats 2000000 in
set_option maxRecDepth 20000 in
theorem t_X5_readAmount_38 {l : Launch} {dd : Nat} {c_X5_readCondition : Nat → Int32 → zM → Option (Unit × zM)} {c_X5_readPart : Nat → Int32 → zM → Option (Unit × zM)} {c_X5_readTest : Nat → Int32 → zM → Option (Unit × zM)} {c_X5_readAmount : Nat → Int32 → zM → Option (Unit × zM)} {c_X5_readTerm : Nat → Int32 → zM → Option (Unit × zM)} {c_X5_readFactor : Nat → Int32 → zM → Option (Unit × zM)} {x0 : Nat} {x1 : Int32} {k7 : Int32 → zM → Option (Unit × zM)} {x2 : Int32} {M MO : zM} {v : Unit} (hc_X5_readCondition : ∀ (x0 : Nat) (x1 : Int32) (M : zM) (v : Unit) (MO : zM), z_tm SH 5 x0 → c_X5_readCondition x0 x1 M = some (v, MO) → zMet l yX5_readCondition cX5_readCondition 4 none (dd + 8) 0 0 [.ref x0, .int x1] SH M (zDv SH MO)) (hc_X5_readPart : ∀ (x0 : Nat) (x1 : Int32) (M : zM) (v : Unit) (MO : zM), z_tm SH 5 x0 → c_X5_readPart x0 x1 M = some (v, MO) → zMet l yX5_readPart cX5_readPart 4 none (dd + 8) 0 0 [.ref x0, .int x1] SH M (zDv SH MO)) (hc_X5_readTest : ∀ (x0 : Nat) (x1 : Int32) (M : zM) (v : Unit) (MO : zM), z_tm SH 5 x0 → c_X5_readTest x0 x1 M = some (v, MO) → zMet l yX5_readTest cX5_readTest 4 none (dd + 8) 0 0 [.ref x0, .int x1] SH M (zDv SH MO)) (hc_X5_readAmount : ∀ (x0 : Nat) (x1 : Int32) (M : zM) (v : Unit) (MO : zM), z_tm SH 5 x0 → c_X5_readAmount x0 x1 M = some (v, MO) → zMet l yX5_readAmount cX5_readAmount 4 none (dd + 8) 0 0 [.ref x0, .int x1] SH M (zDv SH MO)) (hc_X5_readTerm : ∀ (x0 : Nat) (x1 : Int32) (M : zM) (v : Unit) (MO : zM), z_tm SH 5 x0 → c_X5_readTerm x0 x1 M = some (v, MO) → zMet l yX5_readTerm cX5_readTerm 4 none (dd + 8) 0 0 [.ref x0, .int x1] SH M (zDv SH MO)) (hc_X5_readFactor : ∀ (x0 : Nat) (x1 : Int32) (M : zM) (v : Unit) (MO : zM), z_tm SH 5 x0 → c_X5_readFactor x0 x1 M = some (v, MO) → zMet l yX5_readFactor cX5_readFactor 3 none (dd + 8) 0 0 [.ref x0, .int x1] SH M (zDv SH MO)) (h0 : z_tm SH 5 x0) (hk7 : ∀ (x2 : Int32) (M : zM), k7 x2 M = some (v, MO) → zA l yX5_readAmount cX5_readAmount 4 none (dd + 9) 0 0 SH.length (zDv SH MO) 0 0 7 [(0, .ref x0), (1, .int x1), (2, .int x2)] [] SH M) (hf : f_X5_readAmount_38 c_X5_readCondition c_X5_readPart c_X5_readTest c_X5_readAmount c_X5_readTerm c_X5_readFactor x0 x1 k7 x2 M = some (v, MO)) : zA l yX5_readAmount cX5_readAmount 4 none (dd + 9) 0 0 SH.length (zDv SH MO) 0 0 38 [(0, .ref x0), (1, .int x1), (2, .int x2)] [] SH M := by
  unfold f_X5_readAmount_38 at hf
  refine z_aload_n dX5_readAmount_38 rfl rfl ?_
  obtain ⟨a_1, ra_1, hf⟩ := z_rd_some hf
  refine zgR fl_X5_9 h0 (fun _ => rfl) ra_1 dX5_readAmount_39 (fun ha_1 => ?_)
  obtain ⟨v_2, M_3, c_4, hf⟩ := z_call_some hf
  refine z_cVi (t_X10_sign ha_1 c_4) kw_X10_sign lk_X5_37 ha_1 rfl (by omega) rfl (Nat.le_of_ble_eq_true rfl) ⟨Nat.le_refl 0, Nat.le_refl 0⟩ dX5_readAmount_42 ?_
  refine z_istore_n' (lv' := [(3, .int v_2), (0, .ref x0), (1, .int x1), (2, .int x2)]) rfl dX5_readAmount_45 (by decide) rfl rfl ?_
  refine z_aload_n dX5_readAmount_46 rfl rfl ?_
  obtain ⟨a_5, ra_5, hf⟩ := z_rd_some hf
  refine zgR fl_X5_9 h0 (fun _ => rfl) ra_5 dX5_readAmount_47 (fun ha_5 => ?_)
  obtain ⟨v_6, M_7, c_8, hf⟩ := z_call_some hf
  refine z_cVv (t_X10_step ha_5 c_8) kw_X10_step lk_X5_52 ha_5 rfl (by omega) rfl (Nat.le_of_ble_eq_true rfl) ⟨Nat.le_refl 0, Nat.le_refl 0⟩ dX5_readAmount_50 ?_
  refine z_aload_n dX5_readAmount_53 rfl rfl ?_
  refine z_iload_n dX5_readAmount_54 rfl rfl ?_
  obtain ⟨v_9, M_10, c_11, hf⟩ := z_call_some hf
  refine z_cVv (hc_X5_readTerm _ _ _ _ _ h0 c_11) kw_X5_readTerm lk_X5_85 h0 rfl (by omega) rfl (Nat.le_of_ble_eq_true rfl) ⟨Nat.le_refl 0, Nat.le_refl 0⟩ dX5_readAmount_55 ?_
  refine z_aload_n dX5_readAmount_58 rfl rfl ?_
  obtain ⟨a_12, ra_12, hf⟩ := z_rd_some hf
  refine zgR fl_X5_15 h0 (fun _ => rfl) ra_12 dX5_readAmount_59 (fun ha_12 => ?_)
  refine z_iload_n dX5_readAmount_62 rfl rfl ?_
  refine z_iconst (v := 0) dX5_readAmount_63 (by decide) ?_
  obtain ⟨v_13, M_14, c_15, hf⟩ := z_call_some hf
  refine z_cVi (t_X4_add ha_12 c_15) kw_X4_add lk_X5_71 ha_12 rfl (by omega) rfl (Nat.le_of_ble_eq_true rfl) ⟨Nat.le_refl 0, Nat.le_refl 0⟩ dX5_readAmount_64 ?_
  refine z_pop dX5_readAmount_67 rfl ?_
  obtain ⟨x2_16, ex2_16, hf⟩ := zl_some hf
  refine z_iinc' (lv' := [(2, .int x2_16), (3, .int v_2), (0, .ref x0), (1, .int x1)]) dX5_readAmount_68 rfl (by decide) ex2_16 (by decide) rfl ?_
  refine z_goto (tgt := 7) dX5_readAmount_71 (by decide) ?_
  refine zA.pick [(0, .ref x0), (1, .int x1), (2, .int x2_16)] [2, 3, 0] rfl ?_
  exact hk7 x2_16 M_14 hf
noncomputable def f_X5_readAmount_7 (c_X5_readCondition : Nat → Int32 → zM → Option (Unit × zM)) (c_X5_readPart : Nat → Int32 → zM → Option (Unit × zM)) (c_X5_readTest : Nat → Int32 → zM → Option (Unit × zM)) (c_X5_readAmount : Nat → Int32 → zM → Option (Unit × zM)) (c_X5_readTerm : Nat → Int32 → zM → Option (Unit × zM)) (c_X5_readFactor : Nat → Int32 → zM → Option (Unit × zM)) (x0 : Nat) (x1 : Int32) : Nat → Int32 → zM → Option (Unit × zM)
  | 0, _, _ => none
  | n + 1, x2, M =>
    (if 240 ≤ x2 then some ((), M) else z_rd (M.2.1 x0 0) fun a_2 => z_call (f_X10_sign a_2 M) fun v_3 M_4 => (if v_3 = 43 then (f_X5_readAmount_38 c_X5_readCondition c_X5_readPart c_X5_readTest c_X5_readAmount c_X5_readTerm c_X5_readFactor x0 x1 (f_X5_readAmount_7 c_X5_readCondition c_X5_readPart c_X5_readTest c_X5_readAmount c_X5_readTerm c_X5_readFactor x0 x1 n) x2 M_4) else z_rd (M_4.2.1 x0 0) fun a_7 => z_call (f_X10_sign a_7 M_4) fun v_8 M_9 => (if v_8 = 45 then (f_X5_readAmount_38 c_X5_readCondition c_X5_readPart c_X5_readTest c_X5_readAmount c_X5_readTerm c_X5_readFactor x0 x1 (f_X5_readAmount_7 c_X5_readCondition c_X5_readPart c_X5_readTest c_X5_readAmount c_X5_readTerm c_X5_readFactor x0 x1 n) x2 M_9) else some ((), M_9))))
set_option maxHeartbeats 2000000 in
set_option maxRecDepth 20000 in
theorem t_X5_readAmount_7 {l : Launch} {dd : Nat} {c_X5_readCondition : Nat → Int32 → zM → Option (Unit × zM)} {c_X5_readPart : Nat → Int32 → zM → Option (Unit × zM)} {c_X5_readTest : Nat → Int32 → zM → Option (Unit × zM)} {c_X5_readAmount : Nat → Int32 → zM → Option (Unit × zM)} {c_X5_readTerm : Nat → Int32 → zM → Option (Unit × zM)} {c_X5_readFactor : Nat → Int32 → zM → Option (Unit × zM)} {x0 : Nat} {x1 : Int32} {MO : zM} {v : Unit} (hc_X5_readCondition : ∀ (x0 : Nat) (x1 : Int32) (M : zM) (v : Unit) (MO : zM), z_tm SH 5 x0 → c_X5_readCondition x0 x1 M = some (v, MO) → zMet l yX5_readCondition cX5_readCondition 4 none (dd + 8) 0 0 [.ref x0, .int x1] SH M (zDv SH MO)) (hc_X5_readPart : ∀ (x0 : Nat) (x1 : Int32) (M : zM) (v : Unit) (MO : zM), z_tm SH 5 x0 → c_X5_readPart x0 x1 M = some (v, MO) → zMet l yX5_readPart cX5_readPart 4 none (dd + 8) 0 0 [.ref x0, .int x1] SH M (zDv SH MO)) (hc_X5_readTest : ∀ (x0 : Nat) (x1 : Int32) (M : zM) (v : Unit) (MO : zM), z_tm SH 5 x0 → c_X5_readTest x0 x1 M = some (v, MO) → zMet l yX5_readTest cX5_readTest 4 none (dd + 8) 0 0 [.ref x0, .int x1] SH M (zDv SH MO)) (hc_X5_readAmount : ∀ (x0 : Nat) (x1 : Int32) (M : zM) (v : Unit) (MO : zM), z_tm SH 5 x0 → c_X5_readAmount x0 x1 M = some (v, MO) → zMet l yX5_readAmount cX5_readAmount 4 none (dd + 8) 0 0 [.ref x0, .int x1] SH M (zDv SH MO)) (hc_X5_readTerm : ∀ (x0 : Nat) (x1 : Int32) (M : zM) (v : Unit) (MO : zM), z_tm SH 5 x0 → c_X5_readTerm x0 x1 M = some (v, MO) → zMet l yX5_readTerm cX5_readTerm 4 none (dd + 8) 0 0 [.ref x0, .int x1] SH M (zDv SH MO)) (hc_X5_readFactor : ∀ (x0 : Nat) (x1 : Int32) (M : zM) (v : Unit) (MO : zM), z_tm SH 5 x0 → c_X5_readFactor x0 x1 M = some (v, MO) → zMet l yX5_readFactor cX5_readFactor 3 none (dd + 8) 0 0 [.ref x0, .int x1] SH M (zDv SH MO)) (h0 : z_tm SH 5 x0) : ∀ (n : Nat) (x2 : Int32) (M : zM), f_X5_readAmount_7 c_X5_readCondition c_X5_readPart c_X5_readTest c_X5_readAmount c_X5_readTerm c_X5_readFactor x0 x1 n x2 M = some (v, MO) → zA l yX5_readAmount cX5_readAmount 4 none (dd + 9) 0 0 SH.length (zDv SH MO) 0 0 7 [(0, .ref x0), (1, .int x1), (2, .int x2)] [] SH M := by
  intro n
  induction n with
  | zero =>
    intro x2 M hf
    rw [f_X5_readAmount_7] at hf
    cases hf
  | succ n ih =>
    intro x2 M hf
    rw [f_X5_readAmount_7] at hf
    refine z_iload_n dX5_readAmount_7 rfl rfl ?_
    refine z_sipush (v := 240) dX5_readAmount_8 (by decide) ?_
    refine z_icmp_ge (tgt := 74) dX5_readAmount_11 (by decide) (fun q_1 => ?_) (fun q_1 => ?_)
    · have hf := (if_pos q_1).symm.trans hf
      obtain ⟨rfl, rfl⟩ := z_end hf
      exact z_vret ⟨rfl, rfl, rfl⟩ rfl dX5_readAmount_74
    · have hf := (if_neg q_1).symm.trans hf
      refine z_aload_n dX5_readAmount_14 rfl rfl ?_
      obtain ⟨a_2, ra_2, hf⟩ := z_rd_some hf
      refine zgR fl_X5_9 h0 (fun _ => rfl) ra_2 dX5_readAmount_15 (fun ha_2 => ?_)
      obtain ⟨v_3, M_4, c_5, hf⟩ := z_call_some hf
      refine z_cVi (t_X10_sign ha_2 c_5) kw_X10_sign lk_X5_37 ha_2 rfl (by omega) rfl (Nat.le_of_ble_eq_true rfl) ⟨Nat.le_refl 0, Nat.le_refl 0⟩ dX5_readAmount_18 ?_
      refine z_bipush (v := 43) dX5_readAmount_21 (by decide) ?_
      refine z_icmp_eq (tgt := 38) dX5_readAmount_23 (by decide) (fun q_6 => ?_) (fun q_6 => ?_)
      · have hf := (if_pos q_6).symm.trans hf
        exact t_X5_readAmount_38 hc_X5_readCondition hc_X5_readPart hc_X5_readTest hc_X5_readAmount hc_X5_readTerm hc_X5_readFactor h0 ih hf
      · have hf := (if_neg q_6).symm.trans hf
        refine z_aload_n dX5_readAmount_26 rfl rfl ?_
        obtain ⟨a_7, ra_7, hf⟩ := z_rd_some hf
        refine zgR fl_X5_9 h0 (fun _ => rfl) ra_7 dX5_readAmount_27 (fun ha_7 => ?_)
        obtain ⟨v_8, M_9, c_10, hf⟩ := z_call_some hf
        refine z_cVi (t_X10_sign ha_7 c_10) kw_X10_sign lk_X5_37 ha_7 rfl (by omega) rfl (Nat.le_of_ble_eq_true rfl) ⟨Nat.le_refl 0, Nat.le_refl 0⟩ dX5_readAmount_30 ?_
        refine z_bipush (v := 45) dX5_readAmount_33 (by decide) ?_
        refine z_icmp_ne (tgt := 74) dX5_readAmount_35 (by decide) (fun q_11 => ?_) (fun q_11 => ?_)
        · have hf := (if_neg q_11).symm.trans hf
          obtain ⟨rfl, rfl⟩ := z_end hf
          exact z_vret ⟨rfl, rfl, rfl⟩ rfl dX5_readAmount_74
        · have hf := (if_pos q_11).symm.trans hf
          exact t_X5_readAmount_38 hc_X5_readCondition hc_X5_readPart hc_X5_readTest hc_X5_readAmount hc_X5_readTerm hc_X5_readFactor h0 ih hf
noncomputable def f_X5_readAmount (c_X5_readCondition : Nat → Int32 → zM → Option (Unit × zM)) (c_X5_readPart : Nat → Int32 → zM → Option (Unit × zM)) (c_X5_readTest : Nat → Int32 → zM → Option (Unit × zM)) (c_X5_readAmount : Nat → Int32 → zM → Option (Unit × zM)) (c_X5_readTerm : Nat → Int32 → zM → Option (Unit × zM)) (c_X5_readFactor : Nat → Int32 → zM → Option (Unit × zM)) (x0 : Nat) (x1 : Int32) (M : zM) : Option (Unit × zM) :=
  z_call (c_X5_readTerm x0 x1 M) fun v_1 M_2 => (f_X5_readAmount_7 c_X5_readCondition c_X5_readPart c_X5_readTest c_X5_readAmount c_X5_readTerm c_X5_readFactor x0 x1 zF 0 M_2)
set_option maxHeartbeats 2000000 in
set_option maxRecDepth 20000 in
theorem t_X5_readAmount {l : Launch} {dd : Nat} {c_X5_readCondition : Nat → Int32 → zM → Option (Unit × zM)} {c_X5_readPart : Nat → Int32 → zM → Option (Unit × zM)} {c_X5_readTest : Nat → Int32 → zM → Option (Unit × zM)} {c_X5_readAmount : Nat → Int32 → zM → Option (Unit × zM)} {c_X5_readTerm : Nat → Int32 → zM → Option (Unit × zM)} {c_X5_readFactor : Nat → Int32 → zM → Option (Unit × zM)} {x0 : Nat} {x1 : Int32} {M MO : zM} {v : Unit} (hc_X5_readCondition : ∀ (x0 : Nat) (x1 : Int32) (M : zM) (v : Unit) (MO : zM), z_tm SH 5 x0 → c_X5_readCondition x0 x1 M = some (v, MO) → zMet l yX5_readCondition cX5_readCondition 4 none (dd + 8) 0 0 [.ref x0, .int x1] SH M (zDv SH MO)) (hc_X5_readPart : ∀ (x0 : Nat) (x1 : Int32) (M : zM) (v : Unit) (MO : zM), z_tm SH 5 x0 → c_X5_readPart x0 x1 M = some (v, MO) → zMet l yX5_readPart cX5_readPart 4 none (dd + 8) 0 0 [.ref x0, .int x1] SH M (zDv SH MO)) (hc_X5_readTest : ∀ (x0 : Nat) (x1 : Int32) (M : zM) (v : Unit) (MO : zM), z_tm SH 5 x0 → c_X5_readTest x0 x1 M = some (v, MO) → zMet l yX5_readTest cX5_readTest 4 none (dd + 8) 0 0 [.ref x0, .int x1] SH M (zDv SH MO)) (hc_X5_readAmount : ∀ (x0 : Nat) (x1 : Int32) (M : zM) (v : Unit) (MO : zM), z_tm SH 5 x0 → c_X5_readAmount x0 x1 M = some (v, MO) → zMet l yX5_readAmount cX5_readAmount 4 none (dd + 8) 0 0 [.ref x0, .int x1] SH M (zDv SH MO)) (hc_X5_readTerm : ∀ (x0 : Nat) (x1 : Int32) (M : zM) (v : Unit) (MO : zM), z_tm SH 5 x0 → c_X5_readTerm x0 x1 M = some (v, MO) → zMet l yX5_readTerm cX5_readTerm 4 none (dd + 8) 0 0 [.ref x0, .int x1] SH M (zDv SH MO)) (hc_X5_readFactor : ∀ (x0 : Nat) (x1 : Int32) (M : zM) (v : Unit) (MO : zM), z_tm SH 5 x0 → c_X5_readFactor x0 x1 M = some (v, MO) → zMet l yX5_readFactor cX5_readFactor 3 none (dd + 8) 0 0 [.ref x0, .int x1] SH M (zDv SH MO)) (h0 : z_tm SH 5 x0) (hf : f_X5_readAmount c_X5_readCondition c_X5_readPart c_X5_readTest c_X5_readAmount c_X5_readTerm c_X5_readFactor x0 x1 M = some (v, MO)) : zMet l yX5_readAmount cX5_readAmount 4 none (dd + 9) 0 0 [.ref x0, .int x1] SH M (zDv SH MO) := by
  refine zMet.of (by decide +kernel) (Nat.le_of_ble_eq_true rfl) (Or.inl rfl) ?_
  show zA l yX5_readAmount cX5_readAmount 4 none (dd + 9) 0 0 SH.length (zDv SH MO) 0 0 0 [(0, .ref x0), (1, .int x1)] [] SH M
  unfold f_X5_readAmount at hf
  refine z_aload_n dX5_readAmount_0 rfl rfl ?_
  refine z_iload_n dX5_readAmount_1 rfl rfl ?_
  obtain ⟨v_1, M_2, c_3, hf⟩ := z_call_some hf
  refine z_cVv (hc_X5_readTerm _ _ _ _ _ h0 c_3) kw_X5_readTerm lk_X5_85 h0 rfl (by omega) rfl (Nat.le_of_ble_eq_true rfl) ⟨Nat.le_refl 0, Nat.le_refl 0⟩ dX5_readAmount_2 ?_
  refine z_iconst (v := 0) dX5_readAmount_5 (by decide) ?_
  refine z_istore_n' (lv' := [(2, .int 0), (0, .ref x0), (1, .int x1)]) rfl dX5_readAmount_6 (by decide) rfl rfl ?_
  refine zA.pick [(0, .ref x0), (1, .int x1), (2, .int 0)] [1, 2, 0] rfl ?_
  exact t_X5_readAmount_7 hc_X5_readCondition hc_X5_readPart hc_X5_readTest hc_X5_readAmount hc_X5_readTerm hc_X5_readFactor h0 zF 0 M_2 hf
noncomputable def f_X5_readTerm_7 (c_X5_readCondition : Nat → Int32 → zM → Option (Unit × zM)) (c_X5_readPart : Nat → Int32 → zM → Option (Unit × zM)) (c_X5_readTest : Nat → Int32 → zM → Option (Unit × zM)) (c_X5_readAmount : Nat → Int32 → zM → Option (Unit × zM)) (c_X5_readTerm : Nat → Int32 → zM → Option (Unit × zM)) (c_X5_readFactor : Nat → Int32 → zM → Option (Unit × zM)) (x0 : Nat) (x1 : Int32) : Nat → Int32 → zM → Option (Unit × zM)
  | 0, _, _ => none
  | n + 1, x2, M =>
    (if 240 ≤ x2 then some ((), M) else z_rd (M.2.1 x0 0) fun a_2 => z_call (f_X10_sign a_2 M) fun v_3 M_4 => z_call (f_X5_isTimes v_3 M_4) fun v_6 M_7 => (if v_6 = 0 then some ((), M_7) else z_rd (M_7.2.1 x0 0) fun a_10 => z_call (f_X10_sign a_10 M_7) fun v_11 M_12 => z_rd (M_12.2.1 x0 0) fun a_14 => z_call (f_X10_step a_14 M_12) fun v_15 M_16 => z_call (c_X5_readFactor x0 x1 M_16) fun v_18 M_19 => z_rd (M_19.2.1 x0 1) fun a_21 => z_call (f_X4_add a_21 v_11 0 M_19) fun v_22 M_23 => zl (x2 + 1) fun x2_25 => (f_X5_readTerm_7 c_X5_readCondition c_X5_readPart c_X5_readTest c_X5_readAmount c_X5_readTerm c_X5_readFactor x0 x1 n x2_25 M_23)))
set_option maxHeartbeats 2000000 in
set_option maxRecDepth 20000 in
theorem t_X5_readTerm_7 {l : Launch} {dd : Nat} {c_X5_readCondition : Nat → Int32 → zM → Option (Unit × zM)} {c_X5_readPart : Nat → Int32 → zM → Option (Unit × zM)} {c_X5_readTest : Nat → Int32 → zM → Option (Unit × zM)} {c_X5_readAmount : Nat → Int32 → zM → Option (Unit × zM)} {c_X5_readTerm : Nat → Int32 → zM → Option (Unit × zM)} {c_X5_readFactor : Nat → Int32 → zM → Option (Unit × zM)} {x0 : Nat} {x1 : Int32} {MO : zM} {v : Unit} (hc_X5_readCondition : ∀ (x0 : Nat) (x1 : Int32) (M : zM) (v : Unit) (MO : zM), z_tm SH 5 x0 → c_X5_readCondition x0 x1 M = some (v, MO) → zMet l yX5_readCondition cX5_readCondition 4 none (dd + 8) 0 0 [.ref x0, .int x1] SH M (zDv SH MO)) (hc_X5_readPart : ∀ (x0 : Nat) (x1 : Int32) (M : zM) (v : Unit) (MO : zM), z_tm SH 5 x0 → c_X5_readPart x0 x1 M = some (v, MO) → zMet l yX5_readPart cX5_readPart 4 none (dd + 8) 0 0 [.ref x0, .int x1] SH M (zDv SH MO)) (hc_X5_readTest : ∀ (x0 : Nat) (x1 : Int32) (M : zM) (v : Unit) (MO : zM), z_tm SH 5 x0 → c_X5_readTest x0 x1 M = some (v, MO) → zMet l yX5_readTest cX5_readTest 4 none (dd + 8) 0 0 [.ref x0, .int x1] SH M (zDv SH MO)) (hc_X5_readAmount : ∀ (x0 : Nat) (x1 : Int32) (M : zM) (v : Unit) (MO : zM), z_tm SH 5 x0 → c_X5_readAmount x0 x1 M = some (v, MO) → zMet l yX5_readAmount cX5_readAmount 4 none (dd + 8) 0 0 [.ref x0, .int x1] SH M (zDv SH MO)) (hc_X5_readTerm : ∀ (x0 : Nat) (x1 : Int32) (M : zM) (v : Unit) (MO : zM), z_tm SH 5 x0 → c_X5_readTerm x0 x1 M = some (v, MO) → zMet l yX5_readTerm cX5_readTerm 4 none (dd + 8) 0 0 [.ref x0, .int x1] SH M (zDv SH MO)) (hc_X5_readFactor : ∀ (x0 : Nat) (x1 : Int32) (M : zM) (v : Unit) (MO : zM), z_tm SH 5 x0 → c_X5_readFactor x0 x1 M = some (v, MO) → zMet l yX5_readFactor cX5_readFactor 3 none (dd + 8) 0 0 [.ref x0, .int x1] SH M (zDv SH MO)) (h0 : z_tm SH 5 x0) : ∀ (n : Nat) (x2 : Int32) (M : zM), f_X5_readTerm_7 c_X5_readCondition c_X5_readPart c_X5_readTest c_X5_readAmount c_X5_readTerm c_X5_readFactor x0 x1 n x2 M = some (v, MO) → zA l yX5_readTerm cX5_readTerm 4 none (dd + 9) 0 0 SH.length (zDv SH MO) 0 0 7 [(0, .ref x0), (1, .int x1), (2, .int x2)] [] SH M := by
  intro n
  induction n with
  | zero =>
    intro x2 M hf
    rw [f_X5_readTerm_7] at hf
    cases hf
  | succ n ih =>
    intro x2 M hf
    rw [f_X5_readTerm_7] at hf
    refine z_iload_n dX5_readTerm_7 rfl rfl ?_
    refine z_sipush (v := 240) dX5_readTerm_8 (by decide) ?_
    refine z_icmp_ge (tgt := 63) dX5_readTerm_11 (by decide) (fun q_1 => ?_) (fun q_1 => ?_)
    · have hf := (if_pos q_1).symm.trans hf
      obtain ⟨rfl, rfl⟩ := z_end hf
      exact z_vret ⟨rfl, rfl, rfl⟩ rfl dX5_readTerm_63
    · have hf := (if_neg q_1).symm.trans hf
      refine z_aload_n dX5_readTerm_14 rfl rfl ?_
      obtain ⟨a_2, ra_2, hf⟩ := z_rd_some hf
      refine zgR fl_X5_9 h0 (fun _ => rfl) ra_2 dX5_readTerm_15 (fun ha_2 => ?_)
      obtain ⟨v_3, M_4, c_5, hf⟩ := z_call_some hf
      refine z_cVi (t_X10_sign ha_2 c_5) kw_X10_sign lk_X5_37 ha_2 rfl (by omega) rfl (Nat.le_of_ble_eq_true rfl) ⟨Nat.le_refl 0, Nat.le_refl 0⟩ dX5_readTerm_18 ?_
      obtain ⟨v_6, M_7, c_8, hf⟩ := z_call_some hf
      refine z_cSi (t_X5_isTimes  c_8) kw_X5_isTimes lk_X5_91 rfl (by omega) rfl (Nat.le_of_ble_eq_true rfl) ⟨Nat.le_refl 0, Nat.le_refl 0⟩ dX5_readTerm_21 ?_
      refine z_if_eq (tgt := 63) dX5_readTerm_24 (by decide) (fun q_9 => ?_) (fun q_9 => ?_)
      · have hf := (if_pos q_9).symm.trans hf
        obtain ⟨rfl, rfl⟩ := z_end hf
        exact z_vret ⟨rfl, rfl, rfl⟩ rfl dX5_readTerm_63
      · have hf := (if_neg q_9).symm.trans hf
        refine z_aload_n dX5_readTerm_27 rfl rfl ?_
        obtain ⟨a_10, ra_10, hf⟩ := z_rd_some hf
        refine zgR fl_X5_9 h0 (fun _ => rfl) ra_10 dX5_readTerm_28 (fun ha_10 => ?_)
        obtain ⟨v_11, M_12, c_13, hf⟩ := z_call_some hf
        refine z_cVi (t_X10_sign ha_10 c_13) kw_X10_sign lk_X5_37 ha_10 rfl (by omega) rfl (Nat.le_of_ble_eq_true rfl) ⟨Nat.le_refl 0, Nat.le_refl 0⟩ dX5_readTerm_31 ?_
        refine z_istore_n' (lv' := [(3, .int v_11), (0, .ref x0), (1, .int x1), (2, .int x2)]) rfl dX5_readTerm_34 (by decide) rfl rfl ?_
        refine z_aload_n dX5_readTerm_35 rfl rfl ?_
        obtain ⟨a_14, ra_14, hf⟩ := z_rd_some hf
        refine zgR fl_X5_9 h0 (fun _ => rfl) ra_14 dX5_readTerm_36 (fun ha_14 => ?_)
        obtain ⟨v_15, M_16, c_17, hf⟩ := z_call_some hf
        refine z_cVv (t_X10_step ha_14 c_17) kw_X10_step lk_X5_52 ha_14 rfl (by omega) rfl (Nat.le_of_ble_eq_true rfl) ⟨Nat.le_refl 0, Nat.le_refl 0⟩ dX5_readTerm_39 ?_
        refine z_aload_n dX5_readTerm_42 rfl rfl ?_
        refine z_iload_n dX5_readTerm_43 rfl rfl ?_
        obtain ⟨v_18, M_19, c_20, hf⟩ := z_call_some hf
        refine z_cVv (hc_X5_readFactor _ _ _ _ _ h0 c_20) kw_X5_readFactor lk_X5_88 h0 rfl (by omega) rfl (Nat.le_of_ble_eq_true rfl) ⟨Nat.le_refl 0, Nat.le_refl 0⟩ dX5_readTerm_44 ?_
        refine z_aload_n dX5_readTerm_47 rfl rfl ?_
        obtain ⟨a_21, ra_21, hf⟩ := z_rd_some hf
        refine zgR fl_X5_15 h0 (fun _ => rfl) ra_21 dX5_readTerm_48 (fun ha_21 => ?_)
        refine z_iload_n dX5_readTerm_51 rfl rfl ?_
        refine z_iconst (v := 0) dX5_readTerm_52 (by decide) ?_
        obtain ⟨v_22, M_23, c_24, hf⟩ := z_call_some hf
        refine z_cVi (t_X4_add ha_21 c_24) kw_X4_add lk_X5_71 ha_21 rfl (by omega) rfl (Nat.le_of_ble_eq_true rfl) ⟨Nat.le_refl 0, Nat.le_refl 0⟩ dX5_readTerm_53 ?_
        refine z_pop dX5_readTerm_56 rfl ?_
        obtain ⟨x2_25, ex2_25, hf⟩ := zl_some hf
        refine z_iinc' (lv' := [(2, .int x2_25), (3, .int v_11), (0, .ref x0), (1, .int x1)]) dX5_readTerm_57 rfl (by decide) ex2_25 (by decide) rfl ?_
        refine z_goto (tgt := 7) dX5_readTerm_60 (by decide) ?_
        refine zA.pick [(0, .ref x0), (1, .int x1), (2, .int x2_25)] [2, 3, 0] rfl ?_
        exact ih x2_25 M_23 hf
noncomputable def f_X5_readTerm (c_X5_readCondition : Nat → Int32 → zM → Option (Unit × zM)) (c_X5_readPart : Nat → Int32 → zM → Option (Unit × zM)) (c_X5_readTest : Nat → Int32 → zM → Option (Unit × zM)) (c_X5_readAmount : Nat → Int32 → zM → Option (Unit × zM)) (c_X5_readTerm : Nat → Int32 → zM → Option (Unit × zM)) (c_X5_readFactor : Nat → Int32 → zM → Option (Unit × zM)) (x0 : Nat) (x1 : Int32) (M : zM) : Option (Unit × zM) :=
  z_call (c_X5_readFactor x0 x1 M) fun v_1 M_2 => (f_X5_readTerm_7 c_X5_readCondition c_X5_readPart c_X5_readTest c_X5_readAmount c_X5_readTerm c_X5_readFactor x0 x1 zF 0 M_2)
set_option maxHeartbeats 2000000 in
set_option maxRecDepth 20000 in
theorem t_X5_readTerm {l : Launch} {dd : Nat} {c_X5_readCondition : Nat → Int32 → zM → Option (Unit × zM)} {c_X5_readPart : Nat → Int32 → zM → Option (Unit × zM)} {c_X5_readTest : Nat → Int32 → zM → Option (Unit × zM)} {c_X5_readAmount : Nat → Int32 → zM → Option (Unit × zM)} {c_X5_readTerm : Nat → Int32 → zM → Option (Unit × zM)} {c_X5_readFactor : Nat → Int32 → zM → Option (Unit × zM)} {x0 : Nat} {x1 : Int32} {M MO : zM} {v : Unit} (hc_X5_readCondition : ∀ (x0 : Nat) (x1 : Int32) (M : zM) (v : Unit) (MO : zM), z_tm SH 5 x0 → c_X5_readCondition x0 x1 M = some (v, MO) → zMet l yX5_readCondition cX5_readCondition 4 none (dd + 8) 0 0 [.ref x0, .int x1] SH M (zDv SH MO)) (hc_X5_readPart : ∀ (x0 : Nat) (x1 : Int32) (M : zM) (v : Unit) (MO : zM), z_tm SH 5 x0 → c_X5_readPart x0 x1 M = some (v, MO) → zMet l yX5_readPart cX5_readPart 4 none (dd + 8) 0 0 [.ref x0, .int x1] SH M (zDv SH MO)) (hc_X5_readTest : ∀ (x0 : Nat) (x1 : Int32) (M : zM) (v : Unit) (MO : zM), z_tm SH 5 x0 → c_X5_readTest x0 x1 M = some (v, MO) → zMet l yX5_readTest cX5_readTest 4 none (dd + 8) 0 0 [.ref x0, .int x1] SH M (zDv SH MO)) (hc_X5_readAmount : ∀ (x0 : Nat) (x1 : Int32) (M : zM) (v : Unit) (MO : zM), z_tm SH 5 x0 → c_X5_readAmount x0 x1 M = some (v, MO) → zMet l yX5_readAmount cX5_readAmount 4 none (dd + 8) 0 0 [.ref x0, .int x1] SH M (zDv SH MO)) (hc_X5_readTerm : ∀ (x0 : Nat) (x1 : Int32) (M : zM) (v : Unit) (MO : zM), z_tm SH 5 x0 → c_X5_readTerm x0 x1 M = some (v, MO) → zMet l yX5_readTerm cX5_readTerm 4 none (dd + 8) 0 0 [.ref x0, .int x1] SH M (zDv SH MO)) (hc_X5_readFactor : ∀ (x0 : Nat) (x1 : Int32) (M : zM) (v : Unit) (MO : zM), z_tm SH 5 x0 → c_X5_readFactor x0 x1 M = some (v, MO) → zMet l yX5_readFactor cX5_readFactor 3 none (dd + 8) 0 0 [.ref x0, .int x1] SH M (zDv SH MO)) (h0 : z_tm SH 5 x0) (hf : f_X5_readTerm c_X5_readCondition c_X5_readPart c_X5_readTest c_X5_readAmount c_X5_readTerm c_X5_readFactor x0 x1 M = some (v, MO)) : zMet l yX5_readTerm cX5_readTerm 4 none (dd + 9) 0 0 [.ref x0, .int x1] SH M (zDv SH MO) := by
  refine zMet.of (by decide +kernel) (Nat.le_of_ble_eq_true rfl) (Or.inl rfl) ?_
  show zA l yX5_readTerm cX5_readTerm 4 none (dd + 9) 0 0 SH.length (zDv SH MO) 0 0 0 [(0, .ref x0), (1, .int x1)] [] SH M
  unfold f_X5_readTerm at hf
  refine z_aload_n dX5_readTerm_0 rfl rfl ?_
  refine z_iload_n dX5_readTerm_1 rfl rfl ?_
  obtain ⟨v_1, M_2, c_3, hf⟩ := z_call_some hf
  refine z_cVv (hc_X5_readFactor _ _ _ _ _ h0 c_3) kw_X5_readFactor lk_X5_88 h0 rfl (by omega) rfl (Nat.le_of_ble_eq_true rfl) ⟨Nat.le_refl 0, Nat.le_refl 0⟩ dX5_readTerm_2 ?_
  refine z_iconst (v := 0) dX5_readTerm_5 (by decide) ?_
  refine z_istore_n' (lv' := [(2, .int 0), (0, .ref x0), (1, .int x1)]) rfl dX5_readTerm_6 (by decide) rfl rfl ?_
  refine zA.pick [(0, .ref x0), (1, .int x1), (2, .int 0)] [1, 2, 0] rfl ?_
  exact t_X5_readTerm_7 hc_X5_readCondition hc_X5_readPart hc_X5_readTest hc_X5_readAmount hc_X5_readTerm hc_X5_readFactor h0 zF 0 M_2 hf
noncomputable def f_X5_readFactor (c_X5_readCondition : Nat → Int32 → zM → Option (Unit × zM)) (c_X5_readPart : Nat → Int32 → zM → Option (Unit × zM)) (c_X5_readTest : Nat → Int32 → zM → Option (Unit × zM)) (c_X5_readAmount : Nat → Int32 → zM → Option (Unit × zM)) (c_X5_readTerm : Nat → Int32 → zM → Option (Unit × zM)) (c_X5_readFactor : Nat → Int32 → zM → Option (Unit × zM)) (x0 : Nat) (x1 : Int32) (M : zM) : Option (Unit × zM) :=
  z_rd (M.2.1 x0 0) fun a_1 => z_call (f_X10_sign a_1 M) fun v_2 M_3 => (if v_2 = 91 then z_call (f_X5_opens x0 x1 M_3) fun v_35 M_36 => (if v_35 = 0 then some ((), M_36) else z_call (c_X5_readAmount x0 (x1 + 1) M_36) fun v_39 M_40 => z_rd (M_40.2.1 x0 0) fun a_42 => z_call (f_X10_expect a_42 93 M_40) fun v_43 M_44 => some ((), M_44)) else z_call (f_X10_isDigit v_2 M_3) fun v_6 M_7 => (if v_6 = 0 then z_call (f_X5_isLetter v_2 M_7) fun v_10 M_11 => (if v_10 = 0 then z_rd (M_11.2.1 x0 0) fun a_14 => z_rd (M_11.2.1 x0 0) fun a_15 => z_call (f_X10_failAt a_14 1 (M_11.1 a_15 3) M_11) fun v_16 M_17 => some ((), M_17) else z_rd (M_11.2.1 x0 0) fun a_19 => z_call (f_X10_step a_19 M_11) fun v_20 M_21 => z_rd (M_21.2.1 x0 1) fun a_23 => z_call (f_X4_add a_23 v_2 0 M_21) fun v_24 M_25 => some ((), M_25)) else z_rd (M_7.2.1 x0 1) fun a_27 => z_rd (M_7.2.1 x0 0) fun a_28 => z_call (f_X10_number a_28 5 M_7) fun v_29 M_30 => z_call (f_X4_add a_27 48 v_29 M_30) fun v_32 M_33 => some ((), M_33)))
set_option maxHeartbeats 2000000 in
set_option maxRecDepth 20000 in
theorem t_X5_readFactor {l : Launch} {dd : Nat} {c_X5_readCondition : Nat → Int32 → zM → Option (Unit × zM)} {c_X5_readPart : Nat → Int32 → zM → Option (Unit × zM)} {c_X5_readTest : Nat → Int32 → zM → Option (Unit × zM)} {c_X5_readAmount : Nat → Int32 → zM → Option (Unit × zM)} {c_X5_readTerm : Nat → Int32 → zM → Option (Unit × zM)} {c_X5_readFactor : Nat → Int32 → zM → Option (Unit × zM)} {x0 : Nat} {x1 : Int32} {M MO : zM} {v : Unit} (hc_X5_readCondition : ∀ (x0 : Nat) (x1 : Int32) (M : zM) (v : Unit) (MO : zM), z_tm SH 5 x0 → c_X5_readCondition x0 x1 M = some (v, MO) → zMet l yX5_readCondition cX5_readCondition 4 none (dd + 8) 0 0 [.ref x0, .int x1] SH M (zDv SH MO)) (hc_X5_readPart : ∀ (x0 : Nat) (x1 : Int32) (M : zM) (v : Unit) (MO : zM), z_tm SH 5 x0 → c_X5_readPart x0 x1 M = some (v, MO) → zMet l yX5_readPart cX5_readPart 4 none (dd + 8) 0 0 [.ref x0, .int x1] SH M (zDv SH MO)) (hc_X5_readTest : ∀ (x0 : Nat) (x1 : Int32) (M : zM) (v : Unit) (MO : zM), z_tm SH 5 x0 → c_X5_readTest x0 x1 M = some (v, MO) → zMet l yX5_readTest cX5_readTest 4 none (dd + 8) 0 0 [.ref x0, .int x1] SH M (zDv SH MO)) (hc_X5_readAmount : ∀ (x0 : Nat) (x1 : Int32) (M : zM) (v : Unit) (MO : zM), z_tm SH 5 x0 → c_X5_readAmount x0 x1 M = some (v, MO) → zMet l yX5_readAmount cX5_readAmount 4 none (dd + 8) 0 0 [.ref x0, .int x1] SH M (zDv SH MO)) (hc_X5_readTerm : ∀ (x0 : Nat) (x1 : Int32) (M : zM) (v : Unit) (MO : zM), z_tm SH 5 x0 → c_X5_readTerm x0 x1 M = some (v, MO) → zMet l yX5_readTerm cX5_readTerm 4 none (dd + 8) 0 0 [.ref x0, .int x1] SH M (zDv SH MO)) (hc_X5_readFactor : ∀ (x0 : Nat) (x1 : Int32) (M : zM) (v : Unit) (MO : zM), z_tm SH 5 x0 → c_X5_readFactor x0 x1 M = some (v, MO) → zMet l yX5_readFactor cX5_readFactor 3 none (dd + 8) 0 0 [.ref x0, .int x1] SH M (zDv SH MO)) (h0 : z_tm SH 5 x0) (hf : f_X5_readFactor c_X5_readCondition c_X5_readPart c_X5_readTest c_X5_readAmount c_X5_readTerm c_X5_readFactor x0 x1 M = some (v, MO)) : zMet l yX5_readFactor cX5_readFactor 3 none (dd + 9) 0 0 [.ref x0, .int x1] SH M (zDv SH MO) := by
  refine zMet.of (by decide +kernel) (Nat.le_of_ble_eq_true rfl) (Or.inl rfl) ?_
  show zA l yX5_readFactor cX5_readFactor 3 none (dd + 9) 0 0 SH.length (zDv SH MO) 0 0 0 [(0, .ref x0), (1, .int x1)] [] SH M
  unfold f_X5_readFactor at hf
  refine z_aload_n dX5_readFactor_0 rfl rfl ?_
  obtain ⟨a_1, ra_1, hf⟩ := z_rd_some hf
  refine zgR fl_X5_9 h0 (fun _ => rfl) ra_1 dX5_readFactor_1 (fun ha_1 => ?_)
  obtain ⟨v_2, M_3, c_4, hf⟩ := z_call_some hf
  refine z_cVi (t_X10_sign ha_1 c_4) kw_X10_sign lk_X5_37 ha_1 rfl (by omega) rfl (Nat.le_of_ble_eq_true rfl) ⟨Nat.le_refl 0, Nat.le_refl 0⟩ dX5_readFactor_4 ?_
  refine z_istore_n' (lv' := [(2, .int v_2), (0, .ref x0), (1, .int x1)]) rfl dX5_readFactor_7 (by decide) rfl rfl ?_
  refine z_iload_n dX5_readFactor_8 rfl rfl ?_
  refine z_bipush (v := 91) dX5_readFactor_9 (by decide) ?_
  refine z_icmp_ne (tgt := 41) dX5_readFactor_11 (by decide) (fun q_5 => ?_) (fun q_5 => ?_)
  · have hf := (if_neg q_5).symm.trans hf
    refine z_iload_n dX5_readFactor_41 rfl rfl ?_
    obtain ⟨v_6, M_7, c_8, hf⟩ := z_call_some hf
    refine z_cSi (t_X10_isDigit  c_8) kw_X10_isDigit lk_X5_94 rfl (by omega) rfl (Nat.le_of_ble_eq_true rfl) ⟨Nat.le_refl 0, Nat.le_refl 0⟩ dX5_readFactor_42 ?_
    refine z_if_eq (tgt := 69) dX5_readFactor_45 (by decide) (fun q_9 => ?_) (fun q_9 => ?_)
    · have hf := (if_pos q_9).symm.trans hf
      refine z_iload_n dX5_readFactor_69 rfl rfl ?_
      obtain ⟨v_10, M_11, c_12, hf⟩ := z_call_some hf
      refine z_cSi (t_X5_isLetter  c_12) kw_X5_isLetter lk_X5_101 rfl (by omega) rfl (Nat.le_of_ble_eq_true rfl) ⟨Nat.le_refl 0, Nat.le_refl 0⟩ dX5_readFactor_70 ?_
      refine z_if_eq (tgt := 96) dX5_readFactor_73 (by decide) (fun q_13 => ?_) (fun q_13 => ?_)
      · have hf := (if_pos q_13).symm.trans hf
        refine z_aload_n dX5_readFactor_96 rfl rfl ?_
        obtain ⟨a_14, ra_14, hf⟩ := z_rd_some hf
        refine zgR fl_X5_9 h0 (fun _ => rfl) ra_14 dX5_readFactor_97 (fun ha_14 => ?_)
        refine z_iconst (v := 1) dX5_readFactor_100 (by decide) ?_
        refine z_aload_n dX5_readFactor_101 rfl rfl ?_
        obtain ⟨a_15, ra_15, hf⟩ := z_rd_some hf
        refine zgR fl_X5_9 h0 (fun _ => rfl) ra_15 dX5_readFactor_102 (fun ha_15 => ?_)
        refine zgI fl_X5_41 ha_15 (fun _ => rfl) dX5_readFactor_105 ?_
        obtain ⟨v_16, M_17, c_18, hf⟩ := z_call_some hf
        refine z_cVv (t_X10_failAt ha_14 c_18) kw_X10_failAt lk_X5_45 ha_14 rfl (by omega) rfl (Nat.le_of_ble_eq_true rfl) ⟨Nat.le_refl 0, Nat.le_refl 0⟩ dX5_readFactor_108 ?_
        obtain ⟨rfl, rfl⟩ := z_end hf
        exact z_vret ⟨rfl, rfl, rfl⟩ rfl dX5_readFactor_111
      · have hf := (if_neg q_13).symm.trans hf
        refine z_aload_n dX5_readFactor_76 rfl rfl ?_
        obtain ⟨a_19, ra_19, hf⟩ := z_rd_some hf
        refine zgR fl_X5_9 h0 (fun _ => rfl) ra_19 dX5_readFactor_77 (fun ha_19 => ?_)
        obtain ⟨v_20, M_21, c_22, hf⟩ := z_call_some hf
        refine z_cVv (t_X10_step ha_19 c_22) kw_X10_step lk_X5_52 ha_19 rfl (by omega) rfl (Nat.le_of_ble_eq_true rfl) ⟨Nat.le_refl 0, Nat.le_refl 0⟩ dX5_readFactor_80 ?_
        refine z_aload_n dX5_readFactor_83 rfl rfl ?_
        obtain ⟨a_23, ra_23, hf⟩ := z_rd_some hf
        refine zgR fl_X5_15 h0 (fun _ => rfl) ra_23 dX5_readFactor_84 (fun ha_23 => ?_)
        refine z_iload_n dX5_readFactor_87 rfl rfl ?_
        refine z_iconst (v := 0) dX5_readFactor_88 (by decide) ?_
        obtain ⟨v_24, M_25, c_26, hf⟩ := z_call_some hf
        refine z_cVi (t_X4_add ha_23 c_26) kw_X4_add lk_X5_71 ha_23 rfl (by omega) rfl (Nat.le_of_ble_eq_true rfl) ⟨Nat.le_refl 0, Nat.le_refl 0⟩ dX5_readFactor_89 ?_
        refine z_pop dX5_readFactor_92 rfl ?_
        refine z_goto (tgt := 111) dX5_readFactor_93 (by decide) ?_
        obtain ⟨rfl, rfl⟩ := z_end hf
        exact z_vret ⟨rfl, rfl, rfl⟩ rfl dX5_readFactor_111
    · have hf := (if_neg q_9).symm.trans hf
      refine z_aload_n dX5_readFactor_48 rfl rfl ?_
      obtain ⟨a_27, ra_27, hf⟩ := z_rd_some hf
      refine zgR fl_X5_15 h0 (fun _ => rfl) ra_27 dX5_readFactor_49 (fun ha_27 => ?_)
      refine z_bipush (v := 48) dX5_readFactor_52 (by decide) ?_
      refine z_aload_n dX5_readFactor_54 rfl rfl ?_
      obtain ⟨a_28, ra_28, hf⟩ := z_rd_some hf
      refine zgR fl_X5_9 h0 (fun _ => rfl) ra_28 dX5_readFactor_55 (fun ha_28 => ?_)
      refine z_iconst (v := 5) dX5_readFactor_58 (by decide) ?_
      obtain ⟨v_29, M_30, c_31, hf⟩ := z_call_some hf
      refine z_cVi (t_X10_number ha_28 c_31) kw_X10_number lk_X5_97 ha_28 rfl (by omega) rfl (Nat.le_of_ble_eq_true rfl) ⟨Nat.le_refl 0, Nat.le_refl 0⟩ dX5_readFactor_59 ?_
      obtain ⟨v_32, M_33, c_34, hf⟩ := z_call_some hf
      refine z_cVi (t_X4_add ha_27 c_34) kw_X4_add lk_X5_71 ha_27 rfl (by omega) rfl (Nat.le_of_ble_eq_true rfl) ⟨Nat.le_refl 0, Nat.le_refl 0⟩ dX5_readFactor_62 ?_
      refine z_pop dX5_readFactor_65 rfl ?_
      refine z_goto (tgt := 111) dX5_readFactor_66 (by decide) ?_
      obtain ⟨rfl, rfl⟩ := z_end hf
      exact z_vret ⟨rfl, rfl, rfl⟩ rfl dX5_readFactor_111
  · have hf := (if_pos q_5).symm.trans hf
    refine z_aload_n dX5_readFactor_14 rfl rfl ?_
    refine z_iload_n dX5_readFactor_15 rfl rfl ?_
    obtain ⟨v_35, M_36, c_37, hf⟩ := z_call_some hf
    refine z_cVi (t_X5_opens h0 c_37) kw_X5_opens lk_X5_81 h0 rfl (by omega) rfl (Nat.le_of_ble_eq_true rfl) ⟨Nat.le_refl 0, Nat.le_refl 0⟩ dX5_readFactor_16 ?_
    refine z_if_eq (tgt := 111) dX5_readFactor_19 (by decide) (fun q_38 => ?_) (fun q_38 => ?_)
    · have hf := (if_pos q_38).symm.trans hf
      obtain ⟨rfl, rfl⟩ := z_end hf
      exact z_vret ⟨rfl, rfl, rfl⟩ rfl dX5_readFactor_111
    · have hf := (if_neg q_38).symm.trans hf
      refine z_aload_n dX5_readFactor_22 rfl rfl ?_
      refine z_iload_n dX5_readFactor_23 rfl rfl ?_
      refine z_iconst (v := 1) dX5_readFactor_24 (by decide) ?_
      refine z_iadd dX5_readFactor_25 ?_
      obtain ⟨v_39, M_40, c_41, hf⟩ := z_call_some hf
      refine z_cVv (hc_X5_readAmount _ _ _ _ _ h0 c_41) kw_X5_readAmount lk_X5_58 h0 rfl (by omega) rfl (Nat.le_of_ble_eq_true rfl) ⟨Nat.le_refl 0, Nat.le_refl 0⟩ dX5_readFactor_26 ?_
      refine z_aload_n dX5_readFactor_29 rfl rfl ?_
      obtain ⟨a_42, ra_42, hf⟩ := z_rd_some hf
      refine zgR fl_X5_9 h0 (fun _ => rfl) ra_42 dX5_readFactor_30 (fun ha_42 => ?_)
      refine z_bipush (v := 93) dX5_readFactor_33 (by decide) ?_
      obtain ⟨v_43, M_44, c_45, hf⟩ := z_call_some hf
      refine z_cVv (t_X10_expect ha_42 c_45) kw_X10_expect lk_X5_33 ha_42 rfl (by omega) rfl (Nat.le_of_ble_eq_true rfl) ⟨Nat.le_refl 0, Nat.le_refl 0⟩ dX5_readFactor_35 ?_
      refine z_goto (tgt := 111) dX5_readFactor_38 (by decide) ?_
      obtain ⟨rfl, rfl⟩ := z_end hf
      exact z_vret ⟨rfl, rfl, rfl⟩ rfl dX5_readFactor_111
noncomputable def g_X5 : Nat → (Nat → Int32 → zM → Option (Unit × zM)) × (Nat → Int32 → zM → Option (Unit × zM)) × (Nat → Int32 → zM → Option (Unit × zM)) × (Nat → Int32 → zM → Option (Unit × zM)) × (Nat → Int32 → zM → Option (Unit × zM)) × (Nat → Int32 → zM → Option (Unit × zM))
  | 0 => (fun _ _ _ => none, fun _ _ _ => none, fun _ _ _ => none, fun _ _ _ => none, fun _ _ _ => none, fun _ _ _ => none)
  | n + 1 => (f_X5_readCondition (g_X5 n).1 (g_X5 n).2.1 (g_X5 n).2.2.1 (g_X5 n).2.2.2.1 (g_X5 n).2.2.2.2.1 (g_X5 n).2.2.2.2.2, f_X5_readPart (g_X5 n).1 (g_X5 n).2.1 (g_X5 n).2.2.1 (g_X5 n).2.2.2.1 (g_X5 n).2.2.2.2.1 (g_X5 n).2.2.2.2.2, f_X5_readTest (g_X5 n).1 (g_X5 n).2.1 (g_X5 n).2.2.1 (g_X5 n).2.2.2.1 (g_X5 n).2.2.2.2.1 (g_X5 n).2.2.2.2.2, f_X5_readAmount (g_X5 n).1 (g_X5 n).2.1 (g_X5 n).2.2.1 (g_X5 n).2.2.2.1 (g_X5 n).2.2.2.2.1 (g_X5 n).2.2.2.2.2, f_X5_readTerm (g_X5 n).1 (g_X5 n).2.1 (g_X5 n).2.2.1 (g_X5 n).2.2.2.1 (g_X5 n).2.2.2.2.1 (g_X5 n).2.2.2.2.2, f_X5_readFactor (g_X5 n).1 (g_X5 n).2.1 (g_X5 n).2.2.1 (g_X5 n).2.2.2.1 (g_X5 n).2.2.2.2.1 (g_X5 n).2.2.2.2.2)
set_option maxHeartbeats 2000000 in
set_option maxRecDepth 20000 in
theorem tg_X5 {l : Launch} : ∀ n : Nat, (∀ (x0 : Nat) (x1 : Int32) (M : zM) (v : Unit) (MO : zM), z_tm SH 5 x0 → (g_X5 n).1 x0 x1 M = some (v, MO) → zMet l yX5_readCondition cX5_readCondition 4 none (n + 8) 0 0 [.ref x0, .int x1] SH M (zDv SH MO)) ∧ (∀ (x0 : Nat) (x1 : Int32) (M : zM) (v : Unit) (MO : zM), z_tm SH 5 x0 → (g_X5 n).2.1 x0 x1 M = some (v, MO) → zMet l yX5_readPart cX5_readPart 4 none (n + 8) 0 0 [.ref x0, .int x1] SH M (zDv SH MO)) ∧ (∀ (x0 : Nat) (x1 : Int32) (M : zM) (v : Unit) (MO : zM), z_tm SH 5 x0 → (g_X5 n).2.2.1 x0 x1 M = some (v, MO) → zMet l yX5_readTest cX5_readTest 4 none (n + 8) 0 0 [.ref x0, .int x1] SH M (zDv SH MO)) ∧ (∀ (x0 : Nat) (x1 : Int32) (M : zM) (v : Unit) (MO : zM), z_tm SH 5 x0 → (g_X5 n).2.2.2.1 x0 x1 M = some (v, MO) → zMet l yX5_readAmount cX5_readAmount 4 none (n + 8) 0 0 [.ref x0, .int x1] SH M (zDv SH MO)) ∧ (∀ (x0 : Nat) (x1 : Int32) (M : zM) (v : Unit) (MO : zM), z_tm SH 5 x0 → (g_X5 n).2.2.2.2.1 x0 x1 M = some (v, MO) → zMet l yX5_readTerm cX5_readTerm 4 none (n + 8) 0 0 [.ref x0, .int x1] SH M (zDv SH MO)) ∧ (∀ (x0 : Nat) (x1 : Int32) (M : zM) (v : Unit) (MO : zM), z_tm SH 5 x0 → (g_X5 n).2.2.2.2.2 x0 x1 M = some (v, MO) → zMet l yX5_readFactor cX5_readFactor 3 none (n + 8) 0 0 [.ref x0, .int x1] SH M (zDv SH MO)) := by
  intro n
  induction n with
  | zero => exact ⟨(fun x0 x1 M v MO h0 hf => by cases hf), (fun x0 x1 M v MO h0 hf => by cases hf), (fun x0 x1 M v MO h0 hf => by cases hf), (fun x0 x1 M v MO h0 hf => by cases hf), (fun x0 x1 M v MO h0 hf => by cases hf), (fun x0 x1 M v MO h0 hf => by cases hf)⟩
  | succ n ih =>
    obtain ⟨i0, i1, i2, i3, i4, i5⟩ := ih
    exact ⟨(fun x0 x1 M v MO h0 hf => t_X5_readCondition i0 i1 i2 i3 i4 i5 h0 hf), (fun x0 x1 M v MO h0 hf => t_X5_readPart i0 i1 i2 i3 i4 i5 h0 hf), (fun x0 x1 M v MO h0 hf => t_X5_readTest i0 i1 i2 i3 i4 i5 h0 hf), (fun x0 x1 M v MO h0 hf => t_X5_readAmount i0 i1 i2 i3 i4 i5 h0 hf), (fun x0 x1 M v MO h0 hf => t_X5_readTerm i0 i1 i2 i3 i4 i5 h0 hf), (fun x0 x1 M v MO h0 hf => t_X5_readFactor i0 i1 i2 i3 i4 i5 h0 hf)⟩
noncomputable def f_X5_readCondition_r : Nat → Int32 → zM → Option (Unit × zM) := (g_X5 30).1
theorem t_X5_readCondition_r {l : Launch} {x0 : Nat} {x1 : Int32} {M MO : zM} {v : Unit} (h0 : z_tm SH 5 x0) (hf : f_X5_readCondition_r x0 x1 M = some (v, MO)) : zMet l yX5_readCondition cX5_readCondition 4 none 38 0 0 [.ref x0, .int x1] SH M (zDv SH MO) := (tg_X5 30).1 x0 x1 M v MO h0 hf
noncomputable def f_X5_readPart_r : Nat → Int32 → zM → Option (Unit × zM) := (g_X5 30).2.1
theorem t_X5_readPart_r {l : Launch} {x0 : Nat} {x1 : Int32} {M MO : zM} {v : Unit} (h0 : z_tm SH 5 x0) (hf : f_X5_readPart_r x0 x1 M = some (v, MO)) : zMet l yX5_readPart cX5_readPart 4 none 38 0 0 [.ref x0, .int x1] SH M (zDv SH MO) := (tg_X5 30).2.1 x0 x1 M v MO h0 hf
noncomputable def f_X5_readTest_r : Nat → Int32 → zM → Option (Unit × zM) := (g_X5 30).2.2.1
theorem t_X5_readTest_r {l : Launch} {x0 : Nat} {x1 : Int32} {M MO : zM} {v : Unit} (h0 : z_tm SH 5 x0) (hf : f_X5_readTest_r x0 x1 M = some (v, MO)) : zMet l yX5_readTest cX5_readTest 4 none 38 0 0 [.ref x0, .int x1] SH M (zDv SH MO) := (tg_X5 30).2.2.1 x0 x1 M v MO h0 hf
noncomputable def f_X5_readAmount_r : Nat → Int32 → zM → Option (Unit × zM) := (g_X5 30).2.2.2.1
theorem t_X5_readAmount_r {l : Launch} {x0 : Nat} {x1 : Int32} {M MO : zM} {v : Unit} (h0 : z_tm SH 5 x0) (hf : f_X5_readAmount_r x0 x1 M = some (v, MO)) : zMet l yX5_readAmount cX5_readAmount 4 none 38 0 0 [.ref x0, .int x1] SH M (zDv SH MO) := (tg_X5 30).2.2.2.1 x0 x1 M v MO h0 hf
noncomputable def f_X5_readTerm_r : Nat → Int32 → zM → Option (Unit × zM) := (g_X5 30).2.2.2.2.1
theorem t_X5_readTerm_r {l : Launch} {x0 : Nat} {x1 : Int32} {M MO : zM} {v : Unit} (h0 : z_tm SH 5 x0) (hf : f_X5_readTerm_r x0 x1 M = some (v, MO)) : zMet l yX5_readTerm cX5_readTerm 4 none 38 0 0 [.ref x0, .int x1] SH M (zDv SH MO) := (tg_X5 30).2.2.2.2.1 x0 x1 M v MO h0 hf
noncomputable def f_X5_readFactor_r : Nat → Int32 → zM → Option (Unit × zM) := (g_X5 30).2.2.2.2.2
theorem t_X5_readFactor_r {l : Launch} {x0 : Nat} {x1 : Int32} {M MO : zM} {v : Unit} (h0 : z_tm SH 5 x0) (hf : f_X5_readFactor_r x0 x1 M = some (v, MO)) : zMet l yX5_readFactor cX5_readFactor 3 none 38 0 0 [.ref x0, .int x1] SH M (zDv SH MO) := (tg_X5 30).2.2.2.2.2 x0 x1 M v MO h0 hf
noncomputable def f_X5_readRule_102 (x0 : Nat) (x1 : Int32) (x2 : Int32) (M : zM) : Option (Unit × zM) :=
  z_rd (M.2.1 x0 1) fun a_1 => zl ((M.1 a_1 6)) fun x3_2 => z_rd (M.2.1 x0 0) fun a_3 => z_call (f_X10_expect a_3 40 M) fun v_4 M_5 => z_call (f_X5_readCondition_r x0 1 M_5) fun v_7 M_8 => z_rd (M_8.2.1 x0 0) fun a_10 => z_call (f_X10_expect a_10 41 M_8) fun v_11 M_12 => z_rd (M_12.2.1 x0 1) fun a_14 => z_call (f_X4_addRule a_14 x1 x2 x3_2 M_12) fun v_15 M_16 => some ((), M_16)
set_option maxHeartbeats 2000000 in
set_option maxRecDepth 20000 in
theorem t_X5_readRule_102 {l : Launch} {x0 : Nat} {x1 : Int32} {x2 : Int32} {M MO : zM} {v : Unit} (h0 : z_tm SH 5 x0) (hf : f_X5_readRule_102 x0 x1 x2 M = some (v, MO)) : zA l yX5_readRule cX5_readRule 4 none 39 0 0 SH.length (zDv SH MO) 0 0 102 [(0, .ref x0), (1, .int x1), (2, .int x2)] [] SH M := by
  unfold f_X5_readRule_102 at hf
  refine z_aload_n dX5_readRule_102 rfl rfl ?_
  obtain ⟨a_1, ra_1, hf⟩ := z_rd_some hf
  refine zgR fl_X5_15 h0 (fun _ => rfl) ra_1 dX5_readRule_103 (fun ha_1 => ?_)
  refine zgI fl_X5_55 ha_1 (fun _ => rfl) dX5_readRule_106 ?_
  obtain ⟨x3_2, ex3_2, hf⟩ := zl_some hf
  refine z_istore_n' (lv' := [(3, .int x3_2), (0, .ref x0), (1, .int x1), (2, .int x2)]) rfl dX5_readRule_109 (by decide) ex3_2 rfl ?_
  refine z_aload_n dX5_readRule_110 rfl rfl ?_
  obtain ⟨a_3, ra_3, hf⟩ := z_rd_some hf
  refine zgR fl_X5_9 h0 (fun _ => rfl) ra_3 dX5_readRule_111 (fun ha_3 => ?_)
  refine z_bipush (v := 40) dX5_readRule_114 (by decide) ?_
  obtain ⟨v_4, M_5, c_6, hf⟩ := z_call_some hf
  refine z_cVv (t_X10_expect ha_3 c_6) kw_X10_expect lk_X5_33 ha_3 rfl (by decide) rfl (Nat.le_of_ble_eq_true rfl) ⟨Nat.le_refl 0, Nat.le_refl 0⟩ dX5_readRule_116 ?_
  refine z_aload_n dX5_readRule_119 rfl rfl ?_
  refine z_iconst (v := 1) dX5_readRule_120 (by decide) ?_
  obtain ⟨v_7, M_8, c_9, hf⟩ := z_call_some hf
  refine z_cVv (t_X5_readCondition_r h0 c_9) kw_X5_readCondition lk_X5_61 h0 rfl (by decide) rfl (Nat.le_of_ble_eq_true rfl) ⟨Nat.le_refl 0, Nat.le_refl 0⟩ dX5_readRule_121 ?_
  refine z_aload_n dX5_readRule_124 rfl rfl ?_
  obtain ⟨a_10, ra_10, hf⟩ := z_rd_some hf
  refine zgR fl_X5_9 h0 (fun _ => rfl) ra_10 dX5_readRule_125 (fun ha_10 => ?_)
  refine z_bipush (v := 41) dX5_readRule_128 (by decide) ?_
  obtain ⟨v_11, M_12, c_13, hf⟩ := z_call_some hf
  refine z_cVv (t_X10_expect ha_10 c_13) kw_X10_expect lk_X5_33 ha_10 rfl (by decide) rfl (Nat.le_of_ble_eq_true rfl) ⟨Nat.le_refl 0, Nat.le_refl 0⟩ dX5_readRule_130 ?_
  refine z_aload_n dX5_readRule_133 rfl rfl ?_
  obtain ⟨a_14, ra_14, hf⟩ := z_rd_some hf
  refine zgR fl_X5_15 h0 (fun _ => rfl) ra_14 dX5_readRule_134 (fun ha_14 => ?_)
  refine z_iload_n dX5_readRule_137 rfl rfl ?_
  refine z_iload_n dX5_readRule_138 rfl rfl ?_
  refine z_iload_n dX5_readRule_139 rfl rfl ?_
  obtain ⟨v_15, M_16, c_17, hf⟩ := z_call_some hf
  refine z_cVv (t_X4_addRule ha_14 c_17) kw_X4_addRule lk_X5_64 ha_14 rfl (by decide) rfl (Nat.le_of_ble_eq_true rfl) ⟨Nat.le_refl 0, Nat.le_refl 0⟩ dX5_readRule_140 ?_
  obtain ⟨rfl, rfl⟩ := z_end hf
  exact z_vret ⟨rfl, rfl, rfl⟩ rfl dX5_readRule_143
noncomputable def f_X5_readRule_48 (x0 : Nat) (x1 : Int32) (M : zM) : Option (Unit × zM) :=
  z_rd (M.2.1 x0 1) fun a_1 => (if (M.1 a_1 7) = 16 then z_rd (M.2.1 x0 0) fun a_13 => z_rd (M.2.1 x0 0) fun a_14 => z_call (f_X10_failAt a_13 4 (M.1 a_14 3) M) fun v_15 M_16 => some ((), M_16) else z_rd (M.2.1 x0 0) fun a_3 => z_call (f_X10_step a_3 M) fun v_4 M_5 => z_rd (M_5.2.1 x0 1) fun a_7 => zl ((M_5.1 a_7 6)) fun x2_8 => (if x1 = 120 then (f_X5_readRule_102 x0 x1 x2_8 M_5) else z_call (f_X5_readAmount_r x0 0 M_5) fun v_10 M_11 => (f_X5_readRule_102 x0 x1 x2_8 M_11)))
set_option maxHeartbeats 2000000 in
set_option maxRecDepth 20000 in
theorem t_X5_readRule_48 {l : Launch} {x0 : Nat} {x1 : Int32} {M MO : zM} {v : Unit} (h0 : z_tm SH 5 x0) (hf : f_X5_readRule_48 x0 x1 M = some (v, MO)) : zA l yX5_readRule cX5_readRule 4 none 39 0 0 SH.length (zDv SH MO) 0 0 48 [(0, .ref x0), (1, .int x1)] [] SH M := by
  unfold f_X5_readRule_48 at hf
  refine z_aload_n dX5_readRule_48 rfl rfl ?_
  obtain ⟨a_1, ra_1, hf⟩ := z_rd_some hf
  refine zgR fl_X5_15 h0 (fun _ => rfl) ra_1 dX5_readRule_49 (fun ha_1 => ?_)
  refine zgI fl_X5_49 ha_1 (fun _ => rfl) dX5_readRule_52 ?_
  refine z_bipush (v := 16) dX5_readRule_55 (by decide) ?_
  refine z_icmp_ne (tgt := 76) dX5_readRule_57 (by decide) (fun q_2 => ?_) (fun q_2 => ?_)
  · have hf := (if_neg q_2).symm.trans hf
    refine z_aload_n dX5_readRule_76 rfl rfl ?_
    obtain ⟨a_3, ra_3, hf⟩ := z_rd_some hf
    refine zgR fl_X5_9 h0 (fun _ => rfl) ra_3 dX5_readRule_77 (fun ha_3 => ?_)
    obtain ⟨v_4, M_5, c_6, hf⟩ := z_call_some hf
    refine z_cVv (t_X10_step ha_3 c_6) kw_X10_step lk_X5_52 ha_3 rfl (by decide) rfl (Nat.le_of_ble_eq_true rfl) ⟨Nat.le_refl 0, Nat.le_refl 0⟩ dX5_readRule_80 ?_
    refine z_aload_n dX5_readRule_83 rfl rfl ?_
    obtain ⟨a_7, ra_7, hf⟩ := z_rd_some hf
    refine zgR fl_X5_15 h0 (fun _ => rfl) ra_7 dX5_readRule_84 (fun ha_7 => ?_)
    refine zgI fl_X5_55 ha_7 (fun _ => rfl) dX5_readRule_87 ?_
    obtain ⟨x2_8, ex2_8, hf⟩ := zl_some hf
    refine z_istore_n' (lv' := [(2, .int x2_8), (0, .ref x0), (1, .int x1)]) rfl dX5_readRule_90 (by decide) ex2_8 rfl ?_
    refine z_iload_n dX5_readRule_91 rfl rfl ?_
    refine z_bipush (v := 120) dX5_readRule_92 (by decide) ?_
    refine z_icmp_eq (tgt := 102) dX5_readRule_94 (by decide) (fun q_9 => ?_) (fun q_9 => ?_)
    · have hf := (if_pos q_9).symm.trans hf
      refine zA.pick [(0, .ref x0), (1, .int x1), (2, .int x2_8)] [1, 2, 0] rfl ?_
      exact t_X5_readRule_102 h0 hf
    · have hf := (if_neg q_9).symm.trans hf
      refine z_aload_n dX5_readRule_97 rfl rfl ?_
      refine z_iconst (v := 0) dX5_readRule_98 (by decide) ?_
      obtain ⟨v_10, M_11, c_12, hf⟩ := z_call_some hf
      refine z_cVv (t_X5_readAmount_r h0 c_12) kw_X5_readAmount lk_X5_58 h0 rfl (by decide) rfl (Nat.le_of_ble_eq_true rfl) ⟨Nat.le_refl 0, Nat.le_refl 0⟩ dX5_readRule_99 ?_
      refine zA.pick [(0, .ref x0), (1, .int x1), (2, .int x2_8)] [1, 2, 0] rfl ?_
      exact t_X5_readRule_102 h0 hf
  · have hf := (if_pos q_2).symm.trans hf
    refine z_aload_n dX5_readRule_60 rfl rfl ?_
    obtain ⟨a_13, ra_13, hf⟩ := z_rd_some hf
    refine zgR fl_X5_9 h0 (fun _ => rfl) ra_13 dX5_readRule_61 (fun ha_13 => ?_)
    refine z_iconst (v := 4) dX5_readRule_64 (by decide) ?_
    refine z_aload_n dX5_readRule_65 rfl rfl ?_
    obtain ⟨a_14, ra_14, hf⟩ := z_rd_some hf
    refine zgR fl_X5_9 h0 (fun _ => rfl) ra_14 dX5_readRule_66 (fun ha_14 => ?_)
    refine zgI fl_X5_41 ha_14 (fun _ => rfl) dX5_readRule_69 ?_
    obtain ⟨v_15, M_16, c_17, hf⟩ := z_call_some hf
    refine z_cVv (t_X10_failAt ha_13 c_17) kw_X10_failAt lk_X5_45 ha_13 rfl (by decide) rfl (Nat.le_of_ble_eq_true rfl) ⟨Nat.le_refl 0, Nat.le_refl 0⟩ dX5_readRule_72 ?_
    obtain ⟨rfl, rfl⟩ := z_end hf
    exact z_vret ⟨rfl, rfl, rfl⟩ rfl dX5_readRule_75
noncomputable def f_X5_readRule (x0 : Nat) (M : zM) : Option (Unit × zM) :=
  z_rd (M.2.1 x0 0) fun a_1 => z_call (f_X10_sign a_1 M) fun v_2 M_3 => (if v_2 = 99 then (f_X5_readRule_48 x0 v_2 M_3) else (if v_2 = 107 then (f_X5_readRule_48 x0 v_2 M_3) else (if v_2 = 100 then (f_X5_readRule_48 x0 v_2 M_3) else (if v_2 = 120 then (f_X5_readRule_48 x0 v_2 M_3) else z_rd (M_3.2.1 x0 0) fun a_9 => z_rd (M_3.2.1 x0 0) fun a_10 => z_call (f_X10_failAt a_9 1 (M_3.1 a_10 3) M_3) fun v_11 M_12 => some ((), M_12)))))
set_option maxHeartbeats 2000000 in
set_option maxRecDepth 20000 in
theorem t_X5_readRule {l : Launch} {x0 : Nat} {M MO : zM} {v : Unit} (h0 : z_tm SH 5 x0) (hf : f_X5_readRule x0 M = some (v, MO)) : zMet l yX5_readRule cX5_readRule 4 none 39 0 0 [.ref x0] SH M (zDv SH MO) := by
  refine zMet.of (by decide +kernel) (Nat.le_of_ble_eq_true rfl) (Or.inl rfl) ?_
  show zA l yX5_readRule cX5_readRule 4 none 39 0 0 SH.length (zDv SH MO) 0 0 0 [(0, .ref x0)] [] SH M
  unfold f_X5_readRule at hf
  refine z_aload_n dX5_readRule_0 rfl rfl ?_
  obtain ⟨a_1, ra_1, hf⟩ := z_rd_some hf
  refine zgR fl_X5_9 h0 (fun _ => rfl) ra_1 dX5_readRule_1 (fun ha_1 => ?_)
  obtain ⟨v_2, M_3, c_4, hf⟩ := z_call_some hf
  refine z_cVi (t_X10_sign ha_1 c_4) kw_X10_sign lk_X5_37 ha_1 rfl (by decide) rfl (Nat.le_of_ble_eq_true rfl) ⟨Nat.le_refl 0, Nat.le_refl 0⟩ dX5_readRule_4 ?_
  refine z_istore_n' (lv' := [(1, .int v_2), (0, .ref x0)]) rfl dX5_readRule_7 (by decide) rfl rfl ?_
  refine z_iload_n dX5_readRule_8 rfl rfl ?_
  refine z_bipush (v := 99) dX5_readRule_9 (by decide) ?_
  refine z_icmp_eq (tgt := 48) dX5_readRule_11 (by decide) (fun q_5 => ?_) (fun q_5 => ?_)
  · have hf := (if_pos q_5).symm.trans hf
    refine zA.pick [(0, .ref x0), (1, .int v_2)] [1, 0] rfl ?_
    exact t_X5_readRule_48 h0 hf
  · have hf := (if_neg q_5).symm.trans hf
    refine z_iload_n dX5_readRule_14 rfl rfl ?_
    refine z_bipush (v := 107) dX5_readRule_15 (by decide) ?_
    refine z_icmp_eq (tgt := 48) dX5_readRule_17 (by decide) (fun q_6 => ?_) (fun q_6 => ?_)
    · have hf := (if_pos q_6).symm.trans hf
      refine zA.pick [(0, .ref x0), (1, .int v_2)] [1, 0] rfl ?_
      exact t_X5_readRule_48 h0 hf
    · have hf := (if_neg q_6).symm.trans hf
      refine z_iload_n dX5_readRule_20 rfl rfl ?_
      refine z_bipush (v := 100) dX5_readRule_21 (by decide) ?_
      refine z_icmp_eq (tgt := 48) dX5_readRule_23 (by decide) (fun q_7 => ?_) (fun q_7 => ?_)
      · have hf := (if_pos q_7).symm.trans hf
        refine zA.pick [(0, .ref x0), (1, .int v_2)] [1, 0] rfl ?_
        exact t_X5_readRule_48 h0 hf
      · have hf := (if_neg q_7).symm.trans hf
        refine z_iload_n dX5_readRule_26 rfl rfl ?_
        refine z_bipush (v := 120) dX5_readRule_27 (by decide) ?_
        refine z_icmp_eq (tgt := 48) dX5_readRule_29 (by decide) (fun q_8 => ?_) (fun q_8 => ?_)
        · have hf := (if_pos q_8).symm.trans hf
          refine zA.pick [(0, .ref x0), (1, .int v_2)] [1, 0] rfl ?_
          exact t_X5_readRule_48 h0 hf
        · have hf := (if_neg q_8).symm.trans hf
          refine z_aload_n dX5_readRule_32 rfl rfl ?_
          obtain ⟨a_9, ra_9, hf⟩ := z_rd_some hf
          refine zgR fl_X5_9 h0 (fun _ => rfl) ra_9 dX5_readRule_33 (fun ha_9 => ?_)
          refine z_iconst (v := 1) dX5_readRule_36 (by decide) ?_
          refine z_aload_n dX5_readRule_37 rfl rfl ?_
          obtain ⟨a_10, ra_10, hf⟩ := z_rd_some hf
          refine zgR fl_X5_9 h0 (fun _ => rfl) ra_10 dX5_readRule_38 (fun ha_10 => ?_)
          refine zgI fl_X5_41 ha_10 (fun _ => rfl) dX5_readRule_41 ?_
          obtain ⟨v_11, M_12, c_13, hf⟩ := z_call_some hf
          refine z_cVv (t_X10_failAt ha_9 c_13) kw_X10_failAt lk_X5_45 ha_9 rfl (by decide) rfl (Nat.le_of_ble_eq_true rfl) ⟨Nat.le_refl 0, Nat.le_refl 0⟩ dX5_readRule_44 ?_
          obtain ⟨rfl, rfl⟩ := z_end hf
          exact z_vret ⟨rfl, rfl, rfl⟩ rfl dX5_readRule_47
noncomputable def f_X5_read_14 (x0 : Nat) : Nat → Int32 → zM → Option (Unit × zM)
  | 0, _, _ => none
  | n + 1, x2, M =>
    (if 16 < x2 then some ((), M) else z_call (f_X5_readRule x0 M) fun v_2 M_3 => z_rd (M_3.2.1 x0 0) fun a_5 => z_call (f_X10_isOver a_5 M_3) fun v_6 M_7 => (if v_6 = 0 then z_rd (M_7.2.1 x0 0) fun a_10 => z_call (f_X10_expect a_10 59 M_7) fun v_11 M_12 => zl (x2 + 1) fun x2_14 => (f_X5_read_14 x0 n x2_14 M_12) else some ((), M_7)))
set_option maxHeartbeats 2000000 in
set_option maxRecDepth 20000 in
theorem t_X5_read_14 {l : Launch} {x0 : Nat} {MO : zM} {v : Unit} (h0 : z_tm SH 5 x0) : ∀ (n : Nat) (x2 : Int32) (M : zM), f_X5_read_14 x0 n x2 M = some (v, MO) → zA l yX5_read cX5_read 3 none 40 0 0 SH.length (zDv SH MO) 0 0 14 [(0, .ref x0), (2, .int x2)] [] SH M := by
  intro n
  induction n with
  | zero =>
    intro x2 M hf
    rw [f_X5_read_14] at hf
    cases hf
  | succ n ih =>
    intro x2 M hf
    rw [f_X5_read_14] at hf
    refine z_iload_n dX5_read_14 rfl rfl ?_
    refine z_bipush (v := 16) dX5_read_15 (by decide) ?_
    refine z_icmp_gt (tgt := 50) dX5_read_17 (by decide) (fun q_1 => ?_) (fun q_1 => ?_)
    · have hf := (if_pos q_1).symm.trans hf
      obtain ⟨rfl, rfl⟩ := z_end hf
      exact z_vret ⟨rfl, rfl, rfl⟩ rfl dX5_read_50
    · have hf := (if_neg q_1).symm.trans hf
      refine z_aload_n dX5_read_20 rfl rfl ?_
      obtain ⟨v_2, M_3, c_4, hf⟩ := z_call_some hf
      refine z_cVv (t_X5_readRule h0 c_4) kw_X5_readRule lk_X5_24 h0 rfl (by decide) rfl (Nat.le_of_ble_eq_true rfl) ⟨Nat.le_refl 0, Nat.le_refl 0⟩ dX5_read_21 ?_
      refine z_aload_n dX5_read_24 rfl rfl ?_
      obtain ⟨a_5, ra_5, hf⟩ := z_rd_some hf
      refine zgR fl_X5_9 h0 (fun _ => rfl) ra_5 dX5_read_25 (fun ha_5 => ?_)
      obtain ⟨v_6, M_7, c_8, hf⟩ := z_call_some hf
      refine z_cVi (t_X10_isOver ha_5 c_8) kw_X10_isOver lk_X5_27 ha_5 rfl (by decide) rfl (Nat.le_of_ble_eq_true rfl) ⟨Nat.le_refl 0, Nat.le_refl 0⟩ dX5_read_28 ?_
      refine z_if_eq (tgt := 35) dX5_read_31 (by decide) (fun q_9 => ?_) (fun q_9 => ?_)
      · have hf := (if_pos q_9).symm.trans hf
        refine z_aload_n dX5_read_35 rfl rfl ?_
        obtain ⟨a_10, ra_10, hf⟩ := z_rd_some hf
        refine zgR fl_X5_9 h0 (fun _ => rfl) ra_10 dX5_read_36 (fun ha_10 => ?_)
        refine z_bipush (v := 59) dX5_read_39 (by decide) ?_
        obtain ⟨v_11, M_12, c_13, hf⟩ := z_call_some hf
        refine z_cVv (t_X10_expect ha_10 c_13) kw_X10_expect lk_X5_33 ha_10 rfl (by decide) rfl (Nat.le_of_ble_eq_true rfl) ⟨Nat.le_refl 0, Nat.le_refl 0⟩ dX5_read_41 ?_
        obtain ⟨x2_14, ex2_14, hf⟩ := zl_some hf
        refine z_iinc' (lv' := [(2, .int x2_14), (0, .ref x0)]) dX5_read_44 rfl (by decide) ex2_14 (by decide) rfl ?_
        refine z_goto (tgt := 14) dX5_read_47 (by decide) ?_
        refine zA.pick [(0, .ref x0), (2, .int x2_14)] [1, 0] rfl ?_
        exact ih x2_14 M_12 hf
      · have hf := (if_neg q_9).symm.trans hf
        obtain ⟨rfl, rfl⟩ := z_end hf
        exact z_vret ⟨rfl, rfl, rfl⟩ rfl dX5_read_34
noncomputable def f_X5_read (x0 : Nat) (x1 : Nat) (M : zM) : Option (Unit × zM) :=
  zl (M.1, zu M.2.1 x0 1 (some x1), M.2.2) fun M_1 => z_rd (M_1.2.1 x0 1) fun a_2 => z_call (f_X4_clear a_2 M_1) fun v_3 M_4 => (f_X5_read_14 x0 zF 0 M_4)
set_option maxHeartbeats 2000000 in
set_option maxRecDepth 20000 in
theorem t_X5_read {l : Launch} {x0 : Nat} {x1 : Nat} {M MO : zM} {v : Unit} (h0 : z_tm SH 5 x0) (h1 : z_tm SH 4 x1) (hf : f_X5_read x0 x1 M = some (v, MO)) : zMet l yX5_read cX5_read 3 none 40 0 0 [.ref x0, .ref x1] SH M (zDv SH MO) := by
  refine zMet.of (by decide +kernel) (Nat.le_of_ble_eq_true rfl) (Or.inl rfl) ?_
  show zA l yX5_read cX5_read 3 none 40 0 0 SH.length (zDv SH MO) 0 0 0 [(0, .ref x0), (1, .ref x1)] [] SH M
  unfold f_X5_read at hf
  refine z_aload_n dX5_read_0 rfl rfl ?_
  refine z_aload_n dX5_read_1 rfl rfl ?_
  obtain ⟨M_1, eM_1, hf⟩ := zl_some hf
  refine zpR fl_X5_15 h0 rfl (Or.inl ⟨_, rfl⟩) h1 eM_1 dX5_read_2 ?_
  refine z_aload_n dX5_read_5 rfl rfl ?_
  obtain ⟨a_2, ra_2, hf⟩ := z_rd_some hf
  refine zgR fl_X5_15 h0 (fun _ => rfl) ra_2 dX5_read_6 (fun ha_2 => ?_)
  obtain ⟨v_3, M_4, c_5, hf⟩ := z_call_some hf
  refine z_cVv (t_X4_clear ha_2 c_5) kw_X4_clear lk_X5_19 ha_2 rfl (by decide) rfl (Nat.le_of_ble_eq_true rfl) ⟨Nat.le_refl 0, Nat.le_refl 0⟩ dX5_read_9 ?_
  refine z_iconst (v := 0) dX5_read_12 (by decide) ?_
  refine z_istore_n' (lv' := [(2, .int 0), (0, .ref x0), (1, .ref x1)]) rfl dX5_read_13 (by decide) rfl rfl ?_
  refine zA.pick [(0, .ref x0), (2, .int 0)] [1, 0] rfl ?_
  exact t_X5_read_14 h0 zF 0 M_4 hf
noncomputable def f_X0_rise_180 (x0 : Nat) (x3 : Int32) (M : zM) : Option (Unit × zM) :=
  z_rd (M.2.1 x0 0) fun a_1 => z_rd (M.2.1 x0 0) fun a_2 => zl (zu M.1 a_1 7 (z_min 999999 ((M.1 a_2 7) + x3)), M.2) fun M_3 => zl (zu M_3.1 x0 4 ((M_3.1 x0 4) + x3), M_3.2) fun M_4 => some ((), M_4)
set_option maxHeartbeats 2000000 in
set_option maxRecDepth 20000 in
theorem t_X0_rise_180 {l : Launch} {x0 : Nat} {x3 : Int32} {M MO : zM} {v : Unit} (h0 : z_tm SH 0 x0) (hf : f_X0_rise_180 x0 x3 M = some (v, MO)) : zA l yX0_rise cX0_rise 7 none 4 0 0 SH.length (zDv SH MO) 0 0 180 [(0, .ref x0), (3, .int x3)] [] SH M := by
  unfold f_X0_rise_180 at hf
  refine z_aload_n dX0_rise_180 rfl rfl ?_
  obtain ⟨a_1, ra_1, hf⟩ := z_rd_some hf
  refine zgR fl_X0_9 h0 (fun _ => rfl) ra_1 dX0_rise_181 (fun ha_1 => ?_)
  refine z_ldc (v := 999999) dX0_rise_184 cn_X0_88 ?_
  refine z_aload_n dX0_rise_186 rfl rfl ?_
  obtain ⟨a_2, ra_2, hf⟩ := z_rd_some hf
  refine zgR fl_X0_9 h0 (fun _ => rfl) ra_2 dX0_rise_187 (fun ha_2 => ?_)
  refine zgI fl_X0_89 ha_2 (fun _ => rfl) dX0_rise_190 ?_
  refine z_iload_n dX0_rise_193 rfl rfl ?_
  refine z_iadd dX0_rise_194 ?_
  refine z_mmin mm_X0_61 mm_smin mm_ini mm_cmin (by decide) (Nat.le_of_ble_eq_true rfl) dX0_rise_195 ?_
  obtain ⟨M_3, eM_3, hf⟩ := zl_some hf
  refine zpI fl_X0_89 ha_1 rfl (Or.inl rfl) eM_3 dX0_rise_198 ?_
  refine z_aload_n dX0_rise_201 rfl rfl ?_
  refine z_dup dX0_rise_202 rfl ?_
  refine zgI fl_X0_26 h0 (fun _ => rfl) dX0_rise_203 ?_
  refine z_iload_n dX0_rise_206 rfl rfl ?_
  refine z_iadd dX0_rise_207 ?_
  obtain ⟨M_4, eM_4, hf⟩ := zl_some hf
  refine zpI fl_X0_26 h0 rfl (Or.inl rfl) eM_4 dX0_rise_208 ?_
  obtain ⟨rfl, rfl⟩ := z_end hf
  exact z_vret ⟨rfl, rfl, rfl⟩ rfl dX0_rise_211
noncomputable def f_X0_rise_163 (x0 : Nat) (x1 : Int32) (k15 : Int32 → Int32 → Int32 → zM → Option (Unit × zM)) (x3 : Int32) (x4 : Int32) (x5 : Int32) (M : zM) : Option (Unit × zM) :=
  z_rd (M.2.1 x0 0) fun a_1 => z_call (f_X8_above a_1 x4 M) fun v_2 M_3 => zl (x5 + 1) fun x5_5 => (k15 x3 v_2 x5_5 M_3)
set_option maxHeartbeats 2000000 in
set_option maxRecDepth 20000 in
theorem t_X0_rise_163 {l : Launch} {x0 : Nat} {x1 : Int32} {k15 : Int32 → Int32 → Int32 → zM → Option (Unit × zM)} {x3 : Int32} {x4 : Int32} {x5 : Int32} {M MO : zM} {v : Unit} (h0 : z_tm SH 0 x0) (hk15 : ∀ (x3 : Int32) (x4 : Int32) (x5 : Int32) (M : zM), k15 x3 x4 x5 M = some (v, MO) → zA l yX0_rise cX0_rise 7 none 4 0 0 SH.length (zDv SH MO) 0 0 15 [(0, .ref x0), (1, .int x1), (3, .int x3), (4, .int x4), (5, .int x5)] [] SH M) (hf : f_X0_rise_163 x0 x1 k15 x3 x4 x5 M = some (v, MO)) : zA l yX0_rise cX0_rise 7 none 4 0 0 SH.length (zDv SH MO) 0 0 163 [(0, .ref x0), (1, .int x1), (3, .int x3), (4, .int x4), (5, .int x5)] [] SH M := by
  unfold f_X0_rise_163 at hf
  refine z_aload_n dX0_rise_163 rfl rfl ?_
  obtain ⟨a_1, ra_1, hf⟩ := z_rd_some hf
  refine zgR fl_X0_9 h0 (fun _ => rfl) ra_1 dX0_rise_164 (fun ha_1 => ?_)
  refine z_iload dX0_rise_167 rfl ?_
  obtain ⟨v_2, M_3, c_4, hf⟩ := z_call_some hf
  refine z_cVi (t_X8_above ha_1 c_4) kw_X8_above lk_X0_70 ha_1 rfl (by decide) rfl (Nat.le_of_ble_eq_true rfl) ⟨Nat.le_refl 0, Nat.le_refl 0⟩ dX0_rise_169 ?_
  refine z_istore' (lv' := [(4, .int v_2), (0, .ref x0), (1, .int x1), (3, .int x3), (5, .int x5)]) dX0_rise_172 (by decide) rfl rfl ?_
  obtain ⟨x5_5, ex5_5, hf⟩ := zl_some hf
  refine z_iinc' (lv' := [(5, .int x5_5), (4, .int v_2), (0, .ref x0), (1, .int x1), (3, .int x3)]) dX0_rise_174 rfl (by decide) ex5_5 (by decide) rfl ?_
  refine z_goto (tgt := 15) dX0_rise_177 (by decide) ?_
  refine zA.pick [(0, .ref x0), (1, .int x1), (3, .int x3), (4, .int v_2), (5, .int x5_5)] [2, 3, 4, 1, 0] rfl ?_
  exact hk15 x3 v_2 x5_5 M_3 hf
noncomputable def f_X0_rise_15 (x0 : Nat) (x1 : Int32) : Nat → Int32 → Int32 → Int32 → zM → Option (Unit × zM)
  | 0, _, _, _, _ => none
  | n + 1, x3, x4, x5, M =>
    (if 5 ≤ x5 then (f_X0_rise_180 x0 x3 M) else z_call (f_X11_isRoom x4 M) fun v_2 M_3 => (if v_2 = 0 then (f_X0_rise_180 x0 x3 M_3) else z_rd (M_3.2.1 x0 1) fun a_6 => z_rd (M_3.2.1 x0 0) fun a_7 => z_call (f_X4_look a_6 a_7 x1 x4 x3 M_3) fun v_8 M_9 => z_rd (M_9.2.1 x0 1) fun a_11 => z_call (f_X4_amountOf a_11 107 99 M_9) fun v_12 M_13 => zl ((z_min v_12 x3)) fun x6_15 => z_rd (M_13.2.1 x0 0) fun a_16 => z_call (f_X8_addGrease a_16 x4 x6_15 M_13) fun v_17 M_18 => zl (zu M_18.1 x0 3 ((M_18.1 x0 3) + x6_15), M_18.2) fun M_20 => zl ((x3 - x6_15)) fun x3_21 => (if x3_21 = 0 then some ((), M_20) else z_rd (M_20.2.1 x0 1) fun a_23 => z_rd (M_20.2.1 x0 0) fun a_24 => z_call (f_X4_look a_23 a_24 x1 x4 x3_21 M_20) fun v_25 M_26 => z_rd (M_26.2.1 x0 0) fun a_28 => z_call (f_X8_takesPart a_28 x4 M_26) fun v_29 M_30 => (if v_29 = 0 then (f_X0_rise_163 x0 x1 (f_X0_rise_15 x0 x1 n) x3_21 x4 x5 M_30) else z_rd (M_30.2.1 x0 0) fun a_33 => z_call (f_X8_draw a_33 M_30) fun v_34 M_35 => z_rd (M_35.2.1 x0 1) fun a_37 => z_call (f_X4_amountOf a_37 100 10 M_35) fun v_38 M_39 => (if v_38 ≤ v_34 then (f_X0_rise_163 x0 x1 (f_X0_rise_15 x0 x1 n) x3_21 x4 x5 M_39) else z_rd (M_39.2.1 x0 0) fun a_42 => z_call (f_X8_addFelt a_42 x4 x1 x3_21 M_39) fun v_43 M_44 => zl (zu M_44.1 x0 2 ((M_44.1 x0 2) + x3_21), M_44.2) fun M_46 => some ((), M_46))))))
set_option maxHeartbeats 2000000 in
set_option maxRecDepth 20000 in
theorem t_X0_rise_15 {l : Launch} {x0 : Nat} {x1 : Int32} {MO : zM} {v : Unit} (h0 : z_tm SH 0 x0) : ∀ (n : Nat) (x3 : Int32) (x4 : Int32) (x5 : Int32) (M : zM), f_X0_rise_15 x0 x1 n x3 x4 x5 M = some (v, MO) → zA l yX0_rise cX0_rise 7 none 4 0 0 SH.length (zDv SH MO) 0 0 15 [(0, .ref x0), (1, .int x1), (3, .int x3), (4, .int x4), (5, .int x5)] [] SH M := by
  intro n
  induction n with
  | zero =>
    intro x3 x4 x5 M hf
    rw [f_X0_rise_15] at hf
    cases hf
  | succ n ih =>
    intro x3 x4 x5 M hf
    rw [f_X0_rise_15] at hf
    refine z_iload dX0_rise_15 rfl ?_
    refine z_iconst (v := 5) dX0_rise_17 (by decide) ?_
    refine z_icmp_ge (tgt := 180) dX0_rise_18 (by decide) (fun q_1 => ?_) (fun q_1 => ?_)
    · have hf := (if_pos q_1).symm.trans hf
      refine zA.pick [(0, .ref x0), (3, .int x3)] [0, 2] rfl ?_
      exact t_X0_rise_180 h0 hf
    · have hf := (if_neg q_1).symm.trans hf
      refine z_iload dX0_rise_21 rfl ?_
      obtain ⟨v_2, M_3, c_4, hf⟩ := z_call_some hf
      refine z_cSi (t_X11_isRoom  c_4) kw_X11_isRoom lk_X0_74 rfl (by decide) rfl (Nat.le_of_ble_eq_true rfl) ⟨Nat.le_refl 0, Nat.le_refl 0⟩ dX0_rise_23 ?_
      refine z_if_eq (tgt := 180) dX0_rise_26 (by decide) (fun q_5 => ?_) (fun q_5 => ?_)
      · have hf := (if_pos q_5).symm.trans hf
        refine zA.pick [(0, .ref x0), (3, .int x3)] [0, 2] rfl ?_
        exact t_X0_rise_180 h0 hf
      · have hf := (if_neg q_5).symm.trans hf
        refine z_aload_n dX0_rise_29 rfl rfl ?_
        obtain ⟨a_6, ra_6, hf⟩ := z_rd_some hf
        refine zgR fl_X0_15 h0 (fun _ => rfl) ra_6 dX0_rise_30 (fun ha_6 => ?_)
        refine z_aload_n dX0_rise_33 rfl rfl ?_
        obtain ⟨a_7, ra_7, hf⟩ := z_rd_some hf
        refine zgR fl_X0_9 h0 (fun _ => rfl) ra_7 dX0_rise_34 (fun ha_7 => ?_)
        refine z_iload_n dX0_rise_37 rfl rfl ?_
        refine z_iload dX0_rise_38 rfl ?_
        refine z_iload_n dX0_rise_40 rfl rfl ?_
        obtain ⟨v_8, M_9, c_10, hf⟩ := z_call_some hf
        refine z_cVv (t_X4_look ha_6 ha_7 c_10) kw_X4_look lk_X0_47 ha_6 rfl (by decide) rfl (Nat.le_of_ble_eq_true rfl) ⟨Nat.le_refl 0, Nat.le_refl 0⟩ dX0_rise_41 ?_
        refine z_aload_n dX0_rise_44 rfl rfl ?_
        obtain ⟨a_11, ra_11, hf⟩ := z_rd_some hf
        refine zgR fl_X0_15 h0 (fun _ => rfl) ra_11 dX0_rise_45 (fun ha_11 => ?_)
        refine z_bipush (v := 107) dX0_rise_48 (by decide) ?_
        refine z_bipush (v := 99) dX0_rise_50 (by decide) ?_
        obtain ⟨v_12, M_13, c_14, hf⟩ := z_call_some hf
        refine z_cVi (t_X4_amountOf ha_11 c_14) kw_X4_amountOf lk_X0_57 ha_11 rfl (by decide) rfl (Nat.le_of_ble_eq_true rfl) ⟨Nat.le_refl 0, Nat.le_refl 0⟩ dX0_rise_52 ?_
        refine z_iload_n dX0_rise_55 rfl rfl ?_
        refine z_mmin mm_X0_61 mm_smin mm_ini mm_cmin (by decide) (Nat.le_of_ble_eq_true rfl) dX0_rise_56 ?_
        obtain ⟨x6_15, ex6_15, hf⟩ := zl_some hf
        refine z_istore' (lv' := [(6, .int x6_15), (0, .ref x0), (1, .int x1), (3, .int x3), (4, .int x4), (5, .int x5)]) dX0_rise_59 (by decide) ex6_15 rfl ?_
        refine z_aload_n dX0_rise_61 rfl rfl ?_
        obtain ⟨a_16, ra_16, hf⟩ := z_rd_some hf
        refine zgR fl_X0_9 h0 (fun _ => rfl) ra_16 dX0_rise_62 (fun ha_16 => ?_)
        refine z_iload dX0_rise_65 rfl ?_
        refine z_iload dX0_rise_67 rfl ?_
        obtain ⟨v_17, M_18, c_19, hf⟩ := z_call_some hf
        refine z_cVv (t_X8_addGrease ha_16 c_19) kw_X8_addGrease lk_X0_77 ha_16 rfl (by decide) rfl (Nat.le_of_ble_eq_true rfl) ⟨Nat.le_refl 0, Nat.le_refl 0⟩ dX0_rise_69 ?_
        refine z_aload_n dX0_rise_72 rfl rfl ?_
        refine z_dup dX0_rise_73 rfl ?_
        refine zgI fl_X0_23 h0 (fun _ => rfl) dX0_rise_74 ?_
        refine z_iload dX0_rise_77 rfl ?_
        refine z_iadd dX0_rise_79 ?_
        obtain ⟨M_20, eM_20, hf⟩ := zl_some hf
        refine zpI fl_X0_23 h0 rfl (Or.inl rfl) eM_20 dX0_rise_80 ?_
        refine z_iload_n dX0_rise_83 rfl rfl ?_
        refine z_iload dX0_rise_84 rfl ?_
        refine z_isub dX0_rise_86 ?_
        obtain ⟨x3_21, ex3_21, hf⟩ := zl_some hf
        refine z_istore_n' (lv' := [(3, .int x3_21), (6, .int x6_15), (0, .ref x0), (1, .int x1), (4, .int x4), (5, .int x5)]) rfl dX0_rise_87 (by decide) ex3_21 rfl ?_
        refine z_iload_n dX0_rise_88 rfl rfl ?_
        refine z_if_ne (tgt := 93) dX0_rise_89 (by decide) (fun q_22 => ?_) (fun q_22 => ?_)
        · have hf := (if_neg q_22).symm.trans hf
          refine z_aload_n dX0_rise_93 rfl rfl ?_
          obtain ⟨a_23, ra_23, hf⟩ := z_rd_some hf
          refine zgR fl_X0_15 h0 (fun _ => rfl) ra_23 dX0_rise_94 (fun ha_23 => ?_)
          refine z_aload_n dX0_rise_97 rfl rfl ?_
          obtain ⟨a_24, ra_24, hf⟩ := z_rd_some hf
          refine zgR fl_X0_9 h0 (fun _ => rfl) ra_24 dX0_rise_98 (fun ha_24 => ?_)
          refine z_iload_n dX0_rise_101 rfl rfl ?_
          refine z_iload dX0_rise_102 rfl ?_
          refine z_iload_n dX0_rise_104 rfl rfl ?_
          obtain ⟨v_25, M_26, c_27, hf⟩ := z_call_some hf
          refine z_cVv (t_X4_look ha_23 ha_24 c_27) kw_X4_look lk_X0_47 ha_23 rfl (by decide) rfl (Nat.le_of_ble_eq_true rfl) ⟨Nat.le_refl 0, Nat.le_refl 0⟩ dX0_rise_105 ?_
          refine z_aload_n dX0_rise_108 rfl rfl ?_
          obtain ⟨a_28, ra_28, hf⟩ := z_rd_some hf
          refine zgR fl_X0_9 h0 (fun _ => rfl) ra_28 dX0_rise_109 (fun ha_28 => ?_)
          refine z_iload dX0_rise_112 rfl ?_
          obtain ⟨v_29, M_30, c_31, hf⟩ := z_call_some hf
          refine z_cVi (t_X8_takesPart ha_28 c_31) kw_X8_takesPart lk_X0_39 ha_28 rfl (by decide) rfl (Nat.le_of_ble_eq_true rfl) ⟨Nat.le_refl 0, Nat.le_refl 0⟩ dX0_rise_114 ?_
          refine z_if_eq (tgt := 163) dX0_rise_117 (by decide) (fun q_32 => ?_) (fun q_32 => ?_)
          · have hf := (if_pos q_32).symm.trans hf
            refine zA.pick [(0, .ref x0), (1, .int x1), (3, .int x3_21), (4, .int x4), (5, .int x5)] [2, 3, 0, 4, 5] rfl ?_
            exact t_X0_rise_163 h0 ih hf
          · have hf := (if_neg q_32).symm.trans hf
            refine z_aload_n dX0_rise_120 rfl rfl ?_
            obtain ⟨a_33, ra_33, hf⟩ := z_rd_some hf
            refine zgR fl_X0_9 h0 (fun _ => rfl) ra_33 dX0_rise_121 (fun ha_33 => ?_)
            obtain ⟨v_34, M_35, c_36, hf⟩ := z_call_some hf
            refine z_cVi (t_X8_draw ha_33 c_36) kw_X8_draw lk_X0_80 ha_33 rfl (by decide) rfl (Nat.le_of_ble_eq_true rfl) ⟨Nat.le_refl 0, Nat.le_refl 0⟩ dX0_rise_124 ?_
            refine z_aload_n dX0_rise_127 rfl rfl ?_
            obtain ⟨a_37, ra_37, hf⟩ := z_rd_some hf
            refine zgR fl_X0_15 h0 (fun _ => rfl) ra_37 dX0_rise_128 (fun ha_37 => ?_)
            refine z_bipush (v := 100) dX0_rise_131 (by decide) ?_
            refine z_bipush (v := 10) dX0_rise_133 (by decide) ?_
            obtain ⟨v_38, M_39, c_40, hf⟩ := z_call_some hf
            refine z_cVi (t_X4_amountOf ha_37 c_40) kw_X4_amountOf lk_X0_57 ha_37 rfl (by decide) rfl (Nat.le_of_ble_eq_true rfl) ⟨Nat.le_refl 0, Nat.le_refl 0⟩ dX0_rise_135 ?_
            refine z_icmp_ge (tgt := 163) dX0_rise_138 (by decide) (fun q_41 => ?_) (fun q_41 => ?_)
            · have hf := (if_pos q_41).symm.trans hf
              refine zA.pick [(0, .ref x0), (1, .int x1), (3, .int x3_21), (4, .int x4), (5, .int x5)] [2, 3, 0, 4, 5] rfl ?_
              exact t_X0_rise_163 h0 ih hf
            · have hf := (if_neg q_41).symm.trans hf
              refine z_aload_n dX0_rise_141 rfl rfl ?_
              obtain ⟨a_42, ra_42, hf⟩ := z_rd_some hf
              refine zgR fl_X0_9 h0 (fun _ => rfl) ra_42 dX0_rise_142 (fun ha_42 => ?_)
              refine z_iload dX0_rise_145 rfl ?_
              refine z_iload_n dX0_rise_147 rfl rfl ?_
              refine z_iload_n dX0_rise_148 rfl rfl ?_
              obtain ⟨v_43, M_44, c_45, hf⟩ := z_call_some hf
              refine z_cVv (t_X8_addFelt ha_42 c_45) kw_X8_addFelt lk_X0_84 ha_42 rfl (by decide) rfl (Nat.le_of_ble_eq_true rfl) ⟨Nat.le_refl 0, Nat.le_refl 0⟩ dX0_rise_149 ?_
              refine z_aload_n dX0_rise_152 rfl rfl ?_
              refine z_dup dX0_rise_153 rfl ?_
              refine zgI fl_X0_19 h0 (fun _ => rfl) dX0_rise_154 ?_
              refine z_iload_n dX0_rise_157 rfl rfl ?_
              refine z_iadd dX0_rise_158 ?_
              obtain ⟨M_46, eM_46, hf⟩ := zl_some hf
              refine zpI fl_X0_19 h0 rfl (Or.inl rfl) eM_46 dX0_rise_159 ?_
              obtain ⟨rfl, rfl⟩ := z_end hf
              exact z_vret ⟨rfl, rfl, rfl⟩ rfl dX0_rise_162
        · have hf := (if_pos q_22).symm.trans hf
          obtain ⟨rfl, rfl⟩ := z_end hf
          exact z_vret ⟨rfl, rfl, rfl⟩ rfl dX0_rise_92
noncomputable def f_X0_rise (x0 : Nat) (x1 : Int32) (x2 : Int32) (M : zM) : Option (Unit × zM) :=
  z_rd (M.2.1 x0 0) fun a_1 => z_call (f_X8_above a_1 x1 M) fun v_2 M_3 => (f_X0_rise_15 x0 x1 zF x2 v_2 0 M_3)
set_option maxHeartbeats 2000000 in
set_option maxRecDepth 20000 in
theorem t_X0_rise {l : Launch} {x0 : Nat} {x1 : Int32} {x2 : Int32} {M MO : zM} {v : Unit} (h0 : z_tm SH 0 x0) (hf : f_X0_rise x0 x1 x2 M = some (v, MO)) : zMet l yX0_rise cX0_rise 7 none 4 0 0 [.ref x0, .int x1, .int x2] SH M (zDv SH MO) := by
  refine zMet.of (by decide +kernel) (Nat.le_of_ble_eq_true rfl) (Or.inl rfl) ?_
  show zA l yX0_rise cX0_rise 7 none 4 0 0 SH.length (zDv SH MO) 0 0 0 [(0, .ref x0), (1, .int x1), (2, .int x2)] [] SH M
  unfold f_X0_rise at hf
  refine z_iload_n dX0_rise_0 rfl rfl ?_
  refine z_istore_n' (lv' := [(3, .int x2), (0, .ref x0), (1, .int x1), (2, .int x2)]) rfl dX0_rise_1 (by decide) rfl rfl ?_
  refine z_aload_n dX0_rise_2 rfl rfl ?_
  obtain ⟨a_1, ra_1, hf⟩ := z_rd_some hf
  refine zgR fl_X0_9 h0 (fun _ => rfl) ra_1 dX0_rise_3 (fun ha_1 => ?_)
  refine z_iload_n dX0_rise_6 rfl rfl ?_
  obtain ⟨v_2, M_3, c_4, hf⟩ := z_call_some hf
  refine z_cVi (t_X8_above ha_1 c_4) kw_X8_above lk_X0_70 ha_1 rfl (by decide) rfl (Nat.le_of_ble_eq_true rfl) ⟨Nat.le_refl 0, Nat.le_refl 0⟩ dX0_rise_7 ?_
  refine z_istore' (lv' := [(4, .int v_2), (3, .int x2), (0, .ref x0), (1, .int x1), (2, .int x2)]) dX0_rise_10 (by decide) rfl rfl ?_
  refine z_iconst (v := 0) dX0_rise_12 (by decide) ?_
  refine z_istore' (lv' := [(5, .int 0), (4, .int v_2), (3, .int x2), (0, .ref x0), (1, .int x1), (2, .int x2)]) dX0_rise_13 (by decide) rfl rfl ?_
  refine zA.pick [(0, .ref x0), (1, .int x1), (3, .int x2), (4, .int v_2), (5, .int 0)] [3, 4, 2, 1, 0] rfl ?_
  exact t_X0_rise_15 h0 zF x2 v_2 0 M_3 hf
noncomputable def f_X0_sendUp (x0 : Nat) (x1 : Int32) (M : zM) : Option (Unit × zM) :=
  z_rd (M.2.1 x0 0) fun a_1 => z_call (f_X8_takesPart a_1 x1 M) fun v_2 M_3 => (if v_2 = 0 then some ((), M_3) else z_rd (M_3.2.1 x0 0) fun a_6 => z_rd (M_3.2.1 a_6 0) fun a_7 => if z_ix x1 (z_ln SH a_7) = true then (if (M_3.1 a_7 (x1 : Int32).toNatClampNeg) = 0 then some ((), M_3) else z_rd (M_3.2.1 x0 1) fun a_10 => z_rd (M_3.2.1 x0 0) fun a_11 => z_call (f_X4_look a_10 a_11 x1 x1 0 M_3) fun v_12 M_13 => z_rd (M_13.2.1 x0 1) fun a_15 => z_call (f_X4_isFog a_15 M_13) fun v_16 M_17 => (if v_16 = 0 then z_rd (M_17.2.1 x0 1) fun a_20 => z_call (f_X4_amountOf a_20 99 99 M_17) fun v_21 M_22 => z_rd (M_22.2.1 x0 0) fun a_24 => z_rd (M_22.2.1 a_24 0) fun a_25 => if z_ix x1 (z_ln SH a_25) = true then zl ((z_min v_21 (M_22.1 a_25 (x1 : Int32).toNatClampNeg))) fun x2_27 => (if x2_27 ≤ 0 then some ((), M_22) else z_rd (M_22.2.1 x0 0) fun a_29 => z_rd (M_22.2.1 a_29 0) fun a_30 => if z_ix x1 (z_ln SH a_30) = true then if z_ix x1 (z_ln SH a_30) = true then zl (zu M_22.1 a_30 (x1 : Int32).toNatClampNeg ((M_22.1 a_30 (x1 : Int32).toNatClampNeg) - x2_27), M_22.2) fun M_33 => z_call (f_X0_rise x0 x1 x2_27 M_33) fun v_34 M_35 => some ((), M_35) else none else none) else none else some ((), M_17))) else none)
set_option maxHeartbeats 2000000 in
set_option maxRecDepth 20000 in
theorem t_X0_sendUp {l : Launch} {x0 : Nat} {x1 : Int32} {M MO : zM} {v : Unit} (h0 : z_tm SH 0 x0) (hf : f_X0_sendUp x0 x1 M = some (v, MO)) : zMet l yX0_sendUp cX0_sendUp 3 none 5 0 0 [.ref x0, .int x1] SH M (zDv SH MO) := by
  refine zMet.of (by decide +kernel) (Nat.le_of_ble_eq_true rfl) (Or.inl rfl) ?_
  show zA l yX0_sendUp cX0_sendUp 3 none 5 0 0 SH.length (zDv SH MO) 0 0 0 [(0, .ref x0), (1, .int x1)] [] SH M
  unfold f_X0_sendUp at hf
  refine z_aload_n dX0_sendUp_0 rfl rfl ?_
  obtain ⟨a_1, ra_1, hf⟩ := z_rd_some hf
  refine zgR fl_X0_9 h0 (fun _ => rfl) ra_1 dX0_sendUp_1 (fun ha_1 => ?_)
  refine z_iload_n dX0_sendUp_4 rfl rfl ?_
  obtain ⟨v_2, M_3, c_4, hf⟩ := z_call_some hf
  refine z_cVi (t_X8_takesPart ha_1 c_4) kw_X8_takesPart lk_X0_39 ha_1 rfl (by decide) rfl (Nat.le_of_ble_eq_true rfl) ⟨Nat.le_refl 0, Nat.le_refl 0⟩ dX0_sendUp_5 ?_
  refine z_if_eq (tgt := 23) dX0_sendUp_8 (by decide) (fun q_5 => ?_) (fun q_5 => ?_)
  · have hf := (if_pos q_5).symm.trans hf
    obtain ⟨rfl, rfl⟩ := z_end hf
    exact z_vret ⟨rfl, rfl, rfl⟩ rfl dX0_sendUp_23
  · have hf := (if_neg q_5).symm.trans hf
    refine z_aload_n dX0_sendUp_11 rfl rfl ?_
    obtain ⟨a_6, ra_6, hf⟩ := z_rd_some hf
    refine zgR fl_X0_9 h0 (fun _ => rfl) ra_6 dX0_sendUp_12 (fun ha_6 => ?_)
    obtain ⟨a_7, ra_7, hf⟩ := z_rd_some hf
    refine zgR fl_X0_43 ha_6 (fun _ => rfl) ra_7 dX0_sendUp_15 (fun ha_7 => ?_)
    refine z_iload_n dX0_sendUp_18 rfl rfl ?_
    obtain ⟨g_8, hf⟩ := z_ifs hf
    refine z_iald ha_7 g_8 rfl dX0_sendUp_19 ?_
    refine z_if_ne (tgt := 24) dX0_sendUp_20 (by decide) (fun q_9 => ?_) (fun q_9 => ?_)
    · have hf := (if_neg q_9).symm.trans hf
      refine z_aload_n dX0_sendUp_24 rfl rfl ?_
      obtain ⟨a_10, ra_10, hf⟩ := z_rd_some hf
      refine zgR fl_X0_15 h0 (fun _ => rfl) ra_10 dX0_sendUp_25 (fun ha_10 => ?_)
      refine z_aload_n dX0_sendUp_28 rfl rfl ?_
      obtain ⟨a_11, ra_11, hf⟩ := z_rd_some hf
      refine zgR fl_X0_9 h0 (fun _ => rfl) ra_11 dX0_sendUp_29 (fun ha_11 => ?_)
      refine z_iload_n dX0_sendUp_32 rfl rfl ?_
      refine z_iload_n dX0_sendUp_33 rfl rfl ?_
      refine z_iconst (v := 0) dX0_sendUp_34 (by decide) ?_
      obtain ⟨v_12, M_13, c_14, hf⟩ := z_call_some hf
      refine z_cVv (t_X4_look ha_10 ha_11 c_14) kw_X4_look lk_X0_47 ha_10 rfl (by decide) rfl (Nat.le_of_ble_eq_true rfl) ⟨Nat.le_refl 0, Nat.le_refl 0⟩ dX0_sendUp_35 ?_
      refine z_aload_n dX0_sendUp_38 rfl rfl ?_
      obtain ⟨a_15, ra_15, hf⟩ := z_rd_some hf
      refine zgR fl_X0_15 h0 (fun _ => rfl) ra_15 dX0_sendUp_39 (fun ha_15 => ?_)
      obtain ⟨v_16, M_17, c_18, hf⟩ := z_call_some hf
      refine z_cVi (t_X4_isFog ha_15 c_18) kw_X4_isFog lk_X0_53 ha_15 rfl (by decide) rfl (Nat.le_of_ble_eq_true rfl) ⟨Nat.le_refl 0, Nat.le_refl 0⟩ dX0_sendUp_42 ?_
      refine z_if_eq (tgt := 49) dX0_sendUp_45 (by decide) (fun q_19 => ?_) (fun q_19 => ?_)
      · have hf := (if_pos q_19).symm.trans hf
        refine z_aload_n dX0_sendUp_49 rfl rfl ?_
        obtain ⟨a_20, ra_20, hf⟩ := z_rd_some hf
        refine zgR fl_X0_15 h0 (fun _ => rfl) ra_20 dX0_sendUp_50 (fun ha_20 => ?_)
        refine z_bipush (v := 99) dX0_sendUp_53 (by decide) ?_
        refine z_bipush (v := 99) dX0_sendUp_55 (by decide) ?_
        obtain ⟨v_21, M_22, c_23, hf⟩ := z_call_some hf
        refine z_cVi (t_X4_amountOf ha_20 c_23) kw_X4_amountOf lk_X0_57 ha_20 rfl (by decide) rfl (Nat.le_of_ble_eq_true rfl) ⟨Nat.le_refl 0, Nat.le_refl 0⟩ dX0_sendUp_57 ?_
        refine z_aload_n dX0_sendUp_60 rfl rfl ?_
        obtain ⟨a_24, ra_24, hf⟩ := z_rd_some hf
        refine zgR fl_X0_9 h0 (fun _ => rfl) ra_24 dX0_sendUp_61 (fun ha_24 => ?_)
        obtain ⟨a_25, ra_25, hf⟩ := z_rd_some hf
        refine zgR fl_X0_43 ha_24 (fun _ => rfl) ra_25 dX0_sendUp_64 (fun ha_25 => ?_)
        refine z_iload_n dX0_sendUp_67 rfl rfl ?_
        obtain ⟨g_26, hf⟩ := z_ifs hf
        refine z_iald ha_25 g_26 rfl dX0_sendUp_68 ?_
        refine z_mmin mm_X0_61 mm_smin mm_ini mm_cmin (by decide) (Nat.le_of_ble_eq_true rfl) dX0_sendUp_69 ?_
        obtain ⟨x2_27, ex2_27, hf⟩ := zl_some hf
        refine z_istore_n' (lv' := [(2, .int x2_27), (0, .ref x0), (1, .int x1)]) rfl dX0_sendUp_72 (by decide) ex2_27 rfl ?_
        refine z_iload_n dX0_sendUp_73 rfl rfl ?_
        refine z_if_le (tgt := 96) dX0_sendUp_74 (by decide) (fun q_28 => ?_) (fun q_28 => ?_)
        · have hf := (if_pos q_28).symm.trans hf
          obtain ⟨rfl, rfl⟩ := z_end hf
          exact z_vret ⟨rfl, rfl, rfl⟩ rfl dX0_sendUp_96
        · have hf := (if_neg q_28).symm.trans hf
          refine z_aload_n dX0_sendUp_77 rfl rfl ?_
          obtain ⟨a_29, ra_29, hf⟩ := z_rd_some hf
          refine zgR fl_X0_9 h0 (fun _ => rfl) ra_29 dX0_sendUp_78 (fun ha_29 => ?_)
          obtain ⟨a_30, ra_30, hf⟩ := z_rd_some hf
          refine zgR fl_X0_43 ha_29 (fun _ => rfl) ra_30 dX0_sendUp_81 (fun ha_30 => ?_)
          refine z_iload_n dX0_sendUp_84 rfl rfl ?_
          refine z_dup2 dX0_sendUp_85 rfl rfl ?_
          obtain ⟨g_31, hf⟩ := z_ifs hf
          refine z_iald ha_30 g_31 rfl dX0_sendUp_86 ?_
          refine z_iload_n dX0_sendUp_87 rfl rfl ?_
          refine z_isub dX0_sendUp_88 ?_
          obtain ⟨g_32, hf⟩ := z_ifs hf
          obtain ⟨M_33, eM_33, hf⟩ := zl_some hf
          refine z_iast ha_30 g_32 eM_33 dX0_sendUp_89 ?_
          refine z_aload_n dX0_sendUp_90 rfl rfl ?_
          refine z_iload_n dX0_sendUp_91 rfl rfl ?_
          refine z_iload_n dX0_sendUp_92 rfl rfl ?_
          obtain ⟨v_34, M_35, c_36, hf⟩ := z_call_some hf
          refine z_cVv (t_X0_rise h0 c_36) kw_X0_rise lk_X0_66 h0 rfl (by decide) rfl (Nat.le_of_ble_eq_true rfl) ⟨Nat.le_refl 0, Nat.le_refl 0⟩ dX0_sendUp_93 ?_
          obtain ⟨rfl, rfl⟩ := z_end hf
          exact z_vret ⟨rfl, rfl, rfl⟩ rfl dX0_sendUp_96
      · have hf := (if_neg q_19).symm.trans hf
        obtain ⟨rfl, rfl⟩ := z_end hf
        exact z_vret ⟨rfl, rfl, rfl⟩ rfl dX0_sendUp_48
    · have hf := (if_pos q_9).symm.trans hf
      obtain ⟨rfl, rfl⟩ := z_end hf
      exact z_vret ⟨rfl, rfl, rfl⟩ rfl dX0_sendUp_23
noncomputable def f_X0_pass_49 (x0 : Nat) (x3 : Int32) (k28 : Int32 → zM → Option (Unit × zM)) : Nat → Int32 → Int32 → zM → Option (Unit × zM)
  | 0, _, _, _ => none
  | n + 1, x4, x5, M =>
    (if 24 ≤ x5 then z_rd (M.2.1 x0 0) fun a_2 => zl (zu M.1 a_2 8 ((M.1 a_2 8) + 1), M.2) fun M_3 => zl (x4 + 1) fun x4_4 => (k28 x4_4 M_3) else z_call (f_X0_sendUp x0 x5 M) fun v_5 M_6 => zl (x5 + 1) fun x5_8 => (f_X0_pass_49 x0 x3 k28 n x4 x5_8 M_6))
set_option maxHeartbeats 2000000 in
set_option maxRecDepth 20000 in
theorem t_X0_pass_49 {l : Launch} {x0 : Nat} {x3 : Int32} {k28 : Int32 → zM → Option (Unit × zM)} {MO : zM} {v : Unit} (h0 : z_tm SH 0 x0) (hk28 : ∀ (x4 : Int32) (M : zM), k28 x4 M = some (v, MO) → zA l yX0_pass cX0_pass 6 none 6 0 0 SH.length (zDv SH MO) 0 0 28 [(0, .ref x0), (3, .int x3), (4, .int x4)] [] SH M) : ∀ (n : Nat) (x4 : Int32) (x5 : Int32) (M : zM), f_X0_pass_49 x0 x3 k28 n x4 x5 M = some (v, MO) → zA l yX0_pass cX0_pass 6 none 6 0 0 SH.length (zDv SH MO) 0 0 49 [(0, .ref x0), (3, .int x3), (4, .int x4), (5, .int x5)] [] SH M := by
  intro n
  induction n with
  | zero =>
    intro x4 x5 M hf
    rw [f_X0_pass_49] at hf
    cases hf
  | succ n ih =>
    intro x4 x5 M hf
    rw [f_X0_pass_49] at hf
    refine z_iload dX0_pass_49 rfl ?_
    refine z_bipush (v := 24) dX0_pass_51 (by decide) ?_
    refine z_icmp_ge (tgt := 68) dX0_pass_53 (by decide) (fun q_1 => ?_) (fun q_1 => ?_)
    · have hf := (if_pos q_1).symm.trans hf
      refine z_aload_n dX0_pass_68 rfl rfl ?_
      obtain ⟨a_2, ra_2, hf⟩ := z_rd_some hf
      refine zgR fl_X0_9 h0 (fun _ => rfl) ra_2 dX0_pass_69 (fun ha_2 => ?_)
      refine z_dup dX0_pass_72 rfl ?_
      refine zgI fl_X0_29 ha_2 (fun _ => rfl) dX0_pass_73 ?_
      refine z_iconst (v := 1) dX0_pass_76 (by decide) ?_
      refine z_iadd dX0_pass_77 ?_
      obtain ⟨M_3, eM_3, hf⟩ := zl_some hf
      refine zpI fl_X0_29 ha_2 rfl (Or.inl rfl) eM_3 dX0_pass_78 ?_
      obtain ⟨x4_4, ex4_4, hf⟩ := zl_some hf
      refine z_iinc' (lv' := [(4, .int x4_4), (0, .ref x0), (3, .int x3), (5, .int x5)]) dX0_pass_81 rfl (by decide) ex4_4 (by decide) rfl ?_
      refine z_goto (tgt := 28) dX0_pass_84 (by decide) ?_
      refine zA.pick [(0, .ref x0), (3, .int x3), (4, .int x4_4)] [1, 2, 0] rfl ?_
      exact hk28 x4_4 M_3 hf
    · have hf := (if_neg q_1).symm.trans hf
      refine z_aload_n dX0_pass_56 rfl rfl ?_
      refine z_iload dX0_pass_57 rfl ?_
      obtain ⟨v_5, M_6, c_7, hf⟩ := z_call_some hf
      refine z_cVv (t_X0_sendUp h0 c_7) kw_X0_sendUp lk_X0_35 h0 rfl (by decide) rfl (Nat.le_of_ble_eq_true rfl) ⟨Nat.le_refl 0, Nat.le_refl 0⟩ dX0_pass_59 ?_
      obtain ⟨x5_8, ex5_8, hf⟩ := zl_some hf
      refine z_iinc' (lv' := [(5, .int x5_8), (0, .ref x0), (3, .int x3), (4, .int x4)]) dX0_pass_62 rfl (by decide) ex5_8 (by decide) rfl ?_
      refine z_goto (tgt := 49) dX0_pass_65 (by decide) ?_
      refine zA.pick [(0, .ref x0), (3, .int x3), (4, .int x4), (5, .int x5_8)] [1, 2, 3, 0] rfl ?_
      exact ih x4 x5_8 M_6 hf
noncomputable def f_X0_pass_28 (x0 : Nat) (x3 : Int32) : Nat → Int32 → zM → Option (Unit × zM)
  | 0, _, _ => none
  | n + 1, x4, M =>
    (if x3 ≤ x4 then some ((), M) else z_rd (M.2.1 x0 0) fun a_2 => (if 99999 ≤ (M.1 a_2 8) then some ((), M) else (f_X0_pass_49 x0 x3 (f_X0_pass_28 x0 x3 n) zF x4 0 M)))
set_option maxHeartbeats 2000000 in
set_option maxRecDepth 20000 in
theorem t_X0_pass_28 {l : Launch} {x0 : Nat} {x3 : Int32} {MO : zM} {v : Unit} (h0 : z_tm SH 0 x0) : ∀ (n : Nat) (x4 : Int32) (M : zM), f_X0_pass_28 x0 x3 n x4 M = some (v, MO) → zA l yX0_pass cX0_pass 6 none 6 0 0 SH.length (zDv SH MO) 0 0 28 [(0, .ref x0), (3, .int x3), (4, .int x4)] [] SH M := by
  intro n
  induction n with
  | zero =>
    intro x4 M hf
    rw [f_X0_pass_28] at hf
    cases hf
  | succ n ih =>
    intro x4 M hf
    rw [f_X0_pass_28] at hf
    refine z_iload dX0_pass_28 rfl ?_
    refine z_iload_n dX0_pass_30 rfl rfl ?_
    refine z_icmp_ge (tgt := 87) dX0_pass_31 (by decide) (fun q_1 => ?_) (fun q_1 => ?_)
    · have hf := (if_pos q_1).symm.trans hf
      obtain ⟨rfl, rfl⟩ := z_end hf
      exact z_vret ⟨rfl, rfl, rfl⟩ rfl dX0_pass_87
    · have hf := (if_neg q_1).symm.trans hf
      refine z_aload_n dX0_pass_34 rfl rfl ?_
      obtain ⟨a_2, ra_2, hf⟩ := z_rd_some hf
      refine zgR fl_X0_9 h0 (fun _ => rfl) ra_2 dX0_pass_35 (fun ha_2 => ?_)
      refine zgI fl_X0_29 ha_2 (fun _ => rfl) dX0_pass_38 ?_
      refine z_ldc (v := 99999) dX0_pass_41 cn_X0_34 ?_
      refine z_icmp_ge (tgt := 87) dX0_pass_43 (by decide) (fun q_3 => ?_) (fun q_3 => ?_)
      · have hf := (if_pos q_3).symm.trans hf
        obtain ⟨rfl, rfl⟩ := z_end hf
        exact z_vret ⟨rfl, rfl, rfl⟩ rfl dX0_pass_87
      · have hf := (if_neg q_3).symm.trans hf
        refine z_iconst (v := 0) dX0_pass_46 (by decide) ?_
        refine z_istore' (lv' := [(5, .int 0), (0, .ref x0), (3, .int x3), (4, .int x4)]) dX0_pass_47 (by decide) rfl rfl ?_
        refine zA.pick [(0, .ref x0), (3, .int x3), (4, .int x4), (5, .int 0)] [1, 2, 3, 0] rfl ?_
        exact t_X0_pass_49 h0 ih zF x4 0 M hf
noncomputable def f_X0_pass (x0 : Nat) (x1 : Nat) (x2 : Nat) (x3 : Int32) (M : zM) : Option (Unit × zM) :=
  zl (M.1, zu M.2.1 x0 0 (some x1), M.2.2) fun M_1 => zl (M_1.1, zu M_1.2.1 x0 1 (some x2), M_1.2.2) fun M_2 => zl (zu M_2.1 x0 2 0, M_2.2) fun M_3 => zl (zu M_3.1 x0 3 0, M_3.2) fun M_4 => zl (zu M_4.1 x0 4 0, M_4.2) fun M_5 => (f_X0_pass_28 x0 x3 zF 0 M_5)
set_option maxHeartbeats 2000000 in
set_option maxRecDepth 20000 in
theorem t_X0_pass {l : Launch} {x0 : Nat} {x1 : Nat} {x2 : Nat} {x3 : Int32} {M MO : zM} {v : Unit} (h0 : z_tm SH 0 x0) (h1 : z_tm SH 8 x1) (h2 : z_tm SH 4 x2) (hf : f_X0_pass x0 x1 x2 x3 M = some (v, MO)) : zMet l yX0_pass cX0_pass 6 none 6 0 0 [.ref x0, .ref x1, .ref x2, .int x3] SH M (zDv SH MO) := by
  refine zMet.of (by decide +kernel) (Nat.le_of_ble_eq_true rfl) (Or.inl rfl) ?_
  show zA l yX0_pass cX0_pass 6 none 6 0 0 SH.length (zDv SH MO) 0 0 0 [(0, .ref x0), (1, .ref x1), (2, .ref x2), (3, .int x3)] [] SH M
  unfold f_X0_pass at hf
  refine z_aload_n dX0_pass_0 rfl rfl ?_
  refine z_aload_n dX0_pass_1 rfl rfl ?_
  obtain ⟨M_1, eM_1, hf⟩ := zl_some hf
  refine zpR fl_X0_9 h0 rfl (Or.inl ⟨_, rfl⟩) h1 eM_1 dX0_pass_2 ?_
  refine z_aload_n dX0_pass_5 rfl rfl ?_
  refine z_aload_n dX0_pass_6 rfl rfl ?_
  obtain ⟨M_2, eM_2, hf⟩ := zl_some hf
  refine zpR fl_X0_15 h0 rfl (Or.inl ⟨_, rfl⟩) h2 eM_2 dX0_pass_7 ?_
  refine z_aload_n dX0_pass_10 rfl rfl ?_
  refine z_iconst (v := 0) dX0_pass_11 (by decide) ?_
  obtain ⟨M_3, eM_3, hf⟩ := zl_some hf
  refine zpI fl_X0_19 h0 rfl (Or.inl rfl) eM_3 dX0_pass_12 ?_
  refine z_aload_n dX0_pass_15 rfl rfl ?_
  refine z_iconst (v := 0) dX0_pass_16 (by decide) ?_
  obtain ⟨M_4, eM_4, hf⟩ := zl_some hf
  refine zpI fl_X0_23 h0 rfl (Or.inl rfl) eM_4 dX0_pass_17 ?_
  refine z_aload_n dX0_pass_20 rfl rfl ?_
  refine z_iconst (v := 0) dX0_pass_21 (by decide) ?_
  obtain ⟨M_5, eM_5, hf⟩ := zl_some hf
  refine zpI fl_X0_26 h0 rfl (Or.inl rfl) eM_5 dX0_pass_22 ?_
  refine z_iconst (v := 0) dX0_pass_25 (by decide) ?_
  refine z_istore' (lv' := [(4, .int 0), (0, .ref x0), (1, .ref x1), (2, .ref x2), (3, .int x3)]) dX0_pass_26 (by decide) rfl rfl ?_
  refine zA.pick [(0, .ref x0), (3, .int x3), (4, .int 0)] [1, 4, 0] rfl ?_
  exact t_X0_pass_28 h0 zF 0 M_5 hf
noncomputable def f_X6_readRoom (x0 : Nat) (M : zM) : Option (Int32 × zM) :=
  z_rd (M.2.1 x0 0) fun a_1 => zl ((M.1 a_1 3)) fun x1_2 => z_rd (M.2.1 x0 0) fun a_3 => z_call (f_X10_number a_3 2 M) fun v_4 M_5 => (if v_4 < 24 then some (v_4, M_5) else z_rd (M_5.2.1 x0 0) fun a_8 => z_call (f_X10_failAt a_8 3 x1_2 M_5) fun v_9 M_10 => some ((-1), M_10))
set_option maxHeartbeats 2000000 in
set_option maxRecDepth 20000 in
theorem t_X6_readRoom {l : Launch} {x0 : Nat} {M MO : zM} {v : Int32} (h0 : z_tm SH 6 x0) (hf : f_X6_readRoom x0 M = some (v, MO)) : zMet l yX6_readRoom cX6_readRoom 3 (some .int) 3 0 0 [.ref x0] SH M (zDi SH v MO) := by
  refine zMet.of (by decide +kernel) (Nat.le_of_ble_eq_true rfl) (Or.inr (Or.inl rfl)) ?_
  show zA l yX6_readRoom cX6_readRoom 3 (some .int) 3 0 0 SH.length (zDi SH v MO) 0 0 0 [(0, .ref x0)] [] SH M
  unfold f_X6_readRoom at hf
  refine z_aload_n dX6_readRoom_0 rfl rfl ?_
  obtain ⟨a_1, ra_1, hf⟩ := z_rd_some hf
  refine zgR fl_X6_9 h0 (fun _ => rfl) ra_1 dX6_readRoom_1 (fun ha_1 => ?_)
  refine zgI fl_X6_40 ha_1 (fun _ => rfl) dX6_readRoom_4 ?_
  obtain ⟨x1_2, ex1_2, hf⟩ := zl_some hf
  refine z_istore_n' (lv' := [(1, .int x1_2), (0, .ref x0)]) rfl dX6_readRoom_7 (by decide) ex1_2 rfl ?_
  refine z_aload_n dX6_readRoom_8 rfl rfl ?_
  obtain ⟨a_3, ra_3, hf⟩ := z_rd_some hf
  refine zgR fl_X6_9 h0 (fun _ => rfl) ra_3 dX6_readRoom_9 (fun ha_3 => ?_)
  refine z_iconst (v := 2) dX6_readRoom_12 (by decide) ?_
  obtain ⟨v_4, M_5, c_6, hf⟩ := z_call_some hf
  refine z_cVi (t_X10_number ha_3 c_6) kw_X10_number lk_X6_72 ha_3 rfl (by decide) rfl (Nat.le_of_ble_eq_true rfl) ⟨Nat.le_refl 0, Nat.le_refl 0⟩ dX6_readRoom_13 ?_
  refine z_istore_n' (lv' := [(2, .int v_4), (1, .int x1_2), (0, .ref x0)]) rfl dX6_readRoom_16 (by decide) rfl rfl ?_
  refine z_iload_n dX6_readRoom_17 rfl rfl ?_
  refine z_bipush (v := 24) dX6_readRoom_18 (by decide) ?_
  refine z_icmp_lt (tgt := 34) dX6_readRoom_20 (by decide) (fun q_7 => ?_) (fun q_7 => ?_)
  · have hf := (if_pos q_7).symm.trans hf
    refine z_iload_n dX6_readRoom_34 rfl rfl ?_
    obtain ⟨rfl, rfl⟩ := z_end hf
    exact z_iret ⟨rfl, rfl, rfl⟩ (Or.inl rfl) dX6_readRoom_35
  · have hf := (if_neg q_7).symm.trans hf
    refine z_aload_n dX6_readRoom_23 rfl rfl ?_
    obtain ⟨a_8, ra_8, hf⟩ := z_rd_some hf
    refine zgR fl_X6_9 h0 (fun _ => rfl) ra_8 dX6_readRoom_24 (fun ha_8 => ?_)
    refine z_iconst (v := 3) dX6_readRoom_27 (by decide) ?_
    refine z_iload_n dX6_readRoom_28 rfl rfl ?_
    obtain ⟨v_9, M_10, c_11, hf⟩ := z_call_some hf
    refine z_cVv (t_X10_failAt ha_8 c_11) kw_X10_failAt lk_X6_44 ha_8 rfl (by decide) rfl (Nat.le_of_ble_eq_true rfl) ⟨Nat.le_refl 0, Nat.le_refl 0⟩ dX6_readRoom_29 ?_
    refine z_iconst (v := (-1)) dX6_readRoom_32 (by decide) ?_
    obtain ⟨rfl, rfl⟩ := z_end hf
    exact z_iret ⟨rfl, rfl, rfl⟩ (Or.inl rfl) dX6_readRoom_33
noncomputable def f_X6_takeIn (x0 : Nat) (x1 : Int32) (M : zM) : Option (Unit × zM) :=
  z_rd (M.2.1 x0 0) fun a_1 => z_call (f_X10_number a_1 4 M) fun v_2 M_3 => (if v_2 = (-1) then some ((), M_3) else z_rd (M_3.2.1 x0 1) fun a_6 => z_call (f_X8_takeIn a_6 x1 v_2 M_3) fun v_7 M_8 => some ((), M_8))
set_option maxHeartbeats 2000000 in
set_option maxRecDepth 20000 in
theorem t_X6_takeIn {l : Launch} {x0 : Nat} {x1 : Int32} {M MO : zM} {v : Unit} (h0 : z_tm SH 6 x0) (hf : f_X6_takeIn x0 x1 M = some (v, MO)) : zMet l yX6_takeIn cX6_takeIn 3 none 3 0 0 [.ref x0, .int x1] SH M (zDv SH MO) := by
  refine zMet.of (by decide +kernel) (Nat.le_of_ble_eq_true rfl) (Or.inl rfl) ?_
  show zA l yX6_takeIn cX6_takeIn 3 none 3 0 0 SH.length (zDv SH MO) 0 0 0 [(0, .ref x0), (1, .int x1)] [] SH M
  unfold f_X6_takeIn at hf
  refine z_aload_n dX6_takeIn_0 rfl rfl ?_
  obtain ⟨a_1, ra_1, hf⟩ := z_rd_some hf
  refine zgR fl_X6_9 h0 (fun _ => rfl) ra_1 dX6_takeIn_1 (fun ha_1 => ?_)
  refine z_iconst (v := 4) dX6_takeIn_4 (by decide) ?_
  obtain ⟨v_2, M_3, c_4, hf⟩ := z_call_some hf
  refine z_cVi (t_X10_number ha_1 c_4) kw_X10_number lk_X6_72 ha_1 rfl (by decide) rfl (Nat.le_of_ble_eq_true rfl) ⟨Nat.le_refl 0, Nat.le_refl 0⟩ dX6_takeIn_5 ?_
  refine z_istore_n' (lv' := [(2, .int v_2), (0, .ref x0), (1, .int x1)]) rfl dX6_takeIn_8 (by decide) rfl rfl ?_
  refine z_iload_n dX6_takeIn_9 rfl rfl ?_
  refine z_iconst (v := (-1)) dX6_takeIn_10 (by decide) ?_
  refine z_icmp_eq (tgt := 23) dX6_takeIn_11 (by decide) (fun q_5 => ?_) (fun q_5 => ?_)
  · have hf := (if_pos q_5).symm.trans hf
    obtain ⟨rfl, rfl⟩ := z_end hf
    exact z_vret ⟨rfl, rfl, rfl⟩ rfl dX6_takeIn_23
  · have hf := (if_neg q_5).symm.trans hf
    refine z_aload_n dX6_takeIn_14 rfl rfl ?_
    obtain ⟨a_6, ra_6, hf⟩ := z_rd_some hf
    refine zgR fl_X6_15 h0 (fun _ => rfl) ra_6 dX6_takeIn_15 (fun ha_6 => ?_)
    refine z_iload_n dX6_takeIn_18 rfl rfl ?_
    refine z_iload_n dX6_takeIn_19 rfl rfl ?_
    obtain ⟨v_7, M_8, c_9, hf⟩ := z_call_some hf
    refine z_cVv (t_X8_takeIn ha_6 c_9) kw_X8_takeIn lk_X6_76 ha_6 rfl (by decide) rfl (Nat.le_of_ble_eq_true rfl) ⟨Nat.le_refl 0, Nat.le_refl 0⟩ dX6_takeIn_20 ?_
    obtain ⟨rfl, rfl⟩ := z_end hf
    exact z_vret ⟨rfl, rfl, rfl⟩ rfl dX6_takeIn_23
noncomputable def f_X6_sendAway (x0 : Nat) (x1 : Int32) (x2 : Int32) (M : zM) : Option (Unit × zM) :=
  z_rd (M.2.1 x0 1) fun a_1 => z_call (f_X8_hasGuest a_1 x1 M) fun v_2 M_3 => (if v_2 = 0 then z_rd (M_3.2.1 x0 0) fun a_6 => z_call (f_X10_failAt a_6 7 x2 M_3) fun v_7 M_8 => some ((), M_8) else z_rd (M_3.2.1 x0 1) fun a_10 => z_call (f_X8_sendAway a_10 x1 M_3) fun v_11 M_12 => some ((), M_12))
set_option maxHeartbeats 2000000 in
set_option maxRecDepth 20000 in
theorem t_X6_sendAway {l : Launch} {x0 : Nat} {x1 : Int32} {x2 : Int32} {M MO : zM} {v : Unit} (h0 : z_tm SH 6 x0) (hf : f_X6_sendAway x0 x1 x2 M = some (v, MO)) : zMet l yX6_sendAway cX6_sendAway 3 none 3 0 0 [.ref x0, .int x1, .int x2] SH M (zDv SH MO) := by
  refine zMet.of (by decide +kernel) (Nat.le_of_ble_eq_true rfl) (Or.inl rfl) ?_
  show zA l yX6_sendAway cX6_sendAway 3 none 3 0 0 SH.length (zDv SH MO) 0 0 0 [(0, .ref x0), (1, .int x1), (2, .int x2)] [] SH M
  unfold f_X6_sendAway at hf
  refine z_aload_n dX6_sendAway_0 rfl rfl ?_
  obtain ⟨a_1, ra_1, hf⟩ := z_rd_some hf
  refine zgR fl_X6_15 h0 (fun _ => rfl) ra_1 dX6_sendAway_1 (fun ha_1 => ?_)
  refine z_iload_n dX6_sendAway_4 rfl rfl ?_
  obtain ⟨v_2, M_3, c_4, hf⟩ := z_call_some hf
  refine z_cVi (t_X8_hasGuest ha_1 c_4) kw_X8_hasGuest lk_X6_78 ha_1 rfl (by decide) rfl (Nat.le_of_ble_eq_true rfl) ⟨Nat.le_refl 0, Nat.le_refl 0⟩ dX6_sendAway_5 ?_
  refine z_if_eq (tgt := 22) dX6_sendAway_8 (by decide) (fun q_5 => ?_) (fun q_5 => ?_)
  · have hf := (if_pos q_5).symm.trans hf
    refine z_aload_n dX6_sendAway_22 rfl rfl ?_
    obtain ⟨a_6, ra_6, hf⟩ := z_rd_some hf
    refine zgR fl_X6_9 h0 (fun _ => rfl) ra_6 dX6_sendAway_23 (fun ha_6 => ?_)
    refine z_bipush (v := 7) dX6_sendAway_26 (by decide) ?_
    refine z_iload_n dX6_sendAway_28 rfl rfl ?_
    obtain ⟨v_7, M_8, c_9, hf⟩ := z_call_some hf
    refine z_cVv (t_X10_failAt ha_6 c_9) kw_X10_failAt lk_X6_44 ha_6 rfl (by decide) rfl (Nat.le_of_ble_eq_true rfl) ⟨Nat.le_refl 0, Nat.le_refl 0⟩ dX6_sendAway_29 ?_
    obtain ⟨rfl, rfl⟩ := z_end hf
    exact z_vret ⟨rfl, rfl, rfl⟩ rfl dX6_sendAway_32
  · have hf := (if_neg q_5).symm.trans hf
    refine z_aload_n dX6_sendAway_11 rfl rfl ?_
    obtain ⟨a_10, ra_10, hf⟩ := z_rd_some hf
    refine zgR fl_X6_15 h0 (fun _ => rfl) ra_10 dX6_sendAway_12 (fun ha_10 => ?_)
    refine z_iload_n dX6_sendAway_15 rfl rfl ?_
    obtain ⟨v_11, M_12, c_13, hf⟩ := z_call_some hf
    refine z_cVv (t_X8_sendAway ha_10 c_13) kw_X8_sendAway lk_X6_81 ha_10 rfl (by decide) rfl (Nat.le_of_ble_eq_true rfl) ⟨Nat.le_refl 0, Nat.le_refl 0⟩ dX6_sendAway_16 ?_
    refine z_goto (tgt := 32) dX6_sendAway_19 (by decide) ?_
    obtain ⟨rfl, rfl⟩ := z_end hf
    exact z_vret ⟨rfl, rfl, rfl⟩ rfl dX6_sendAway_32
noncomputable def f_X6_exchange_33 (x0 : Nat) (x1 : Int32) (x3 : Int32) (M : zM) : Option (Unit × zM) :=
  z_rd (M.2.1 x0 1) fun a_1 => z_call (f_X8_exchange a_1 x1 x3 M) fun v_2 M_3 => some ((), M_3)
set_option maxHeartbeats 2000000 in
set_option maxRecDepth 20000 in
theorem t_X6_exchange_33 {l : Launch} {x0 : Nat} {x1 : Int32} {x3 : Int32} {M MO : zM} {v : Unit} (h0 : z_tm SH 6 x0) (hf : f_X6_exchange_33 x0 x1 x3 M = some (v, MO)) : zA l yX6_exchange cX6_exchange 4 none 4 0 0 SH.length (zDv SH MO) 0 0 33 [(0, .ref x0), (1, .int x1), (3, .int x3)] [] SH M := by
  unfold f_X6_exchange_33 at hf
  refine z_aload_n dX6_exchange_33 rfl rfl ?_
  obtain ⟨a_1, ra_1, hf⟩ := z_rd_some hf
  refine zgR fl_X6_15 h0 (fun _ => rfl) ra_1 dX6_exchange_34 (fun ha_1 => ?_)
  refine z_iload_n dX6_exchange_37 rfl rfl ?_
  refine z_iload_n dX6_exchange_38 rfl rfl ?_
  obtain ⟨v_2, M_3, c_4, hf⟩ := z_call_some hf
  refine z_cVv (t_X8_exchange ha_1 c_4) kw_X8_exchange lk_X6_83 ha_1 rfl (by decide) rfl (Nat.le_of_ble_eq_true rfl) ⟨Nat.le_refl 0, Nat.le_refl 0⟩ dX6_exchange_39 ?_
  refine z_goto (tgt := 55) dX6_exchange_42 (by decide) ?_
  obtain ⟨rfl, rfl⟩ := z_end hf
  exact z_vret ⟨rfl, rfl, rfl⟩ rfl dX6_exchange_55
noncomputable def f_X6_exchange (x0 : Nat) (x1 : Int32) (x2 : Int32) (M : zM) : Option (Unit × zM) :=
  z_call (f_X6_readRoom x0 M) fun v_1 M_2 => (if v_1 = (-1) then some ((), M_2) else z_rd (M_2.2.1 x0 1) fun a_5 => z_call (f_X8_hasGuest a_5 x1 M_2) fun v_6 M_7 => (if v_6 = 0 then z_rd (M_7.2.1 x0 1) fun a_10 => z_call (f_X8_hasGuest a_10 v_1 M_7) fun v_11 M_12 => (if v_11 = 0 then z_rd (M_12.2.1 x0 0) fun a_15 => z_call (f_X10_failAt a_15 7 x2 M_12) fun v_16 M_17 => some ((), M_17) else (f_X6_exchange_33 x0 x1 v_1 M_12)) else (f_X6_exchange_33 x0 x1 v_1 M_7)))
set_option maxHeartbeats 2000000 in
set_option maxRecDepth 20000 in
theorem t_X6_exchange {l : Launch} {x0 : Nat} {x1 : Int32} {x2 : Int32} {M MO : zM} {v : Unit} (h0 : z_tm SH 6 x0) (hf : f_X6_exchange x0 x1 x2 M = some (v, MO)) : zMet l yX6_exchange cX6_exchange 4 none 4 0 0 [.ref x0, .int x1, .int x2] SH M (zDv SH MO) := by
  refine zMet.of (by decide +kernel) (Nat.le_of_ble_eq_true rfl) (Or.inl rfl) ?_
  show zA l yX6_exchange cX6_exchange 4 none 4 0 0 SH.length (zDv SH MO) 0 0 0 [(0, .ref x0), (1, .int x1), (2, .int x2)] [] SH M
  unfold f_X6_exchange at hf
  refine z_aload_n dX6_exchange_0 rfl rfl ?_
  obtain ⟨v_1, M_2, c_3, hf⟩ := z_call_some hf
  refine z_cVi (t_X6_readRoom h0 c_3) kw_X6_readRoom lk_X6_48 h0 rfl (by decide) rfl (Nat.le_of_ble_eq_true rfl) ⟨Nat.le_refl 0, Nat.le_refl 0⟩ dX6_exchange_1 ?_
  refine z_istore_n' (lv' := [(3, .int v_1), (0, .ref x0), (1, .int x1), (2, .int x2)]) rfl dX6_exchange_4 (by decide) rfl rfl ?_
  refine z_iload_n dX6_exchange_5 rfl rfl ?_
  refine z_iconst (v := (-1)) dX6_exchange_6 (by decide) ?_
  refine z_icmp_ne (tgt := 11) dX6_exchange_7 (by decide) (fun q_4 => ?_) (fun q_4 => ?_)
  · have hf := (if_neg q_4).symm.trans hf
    refine z_aload_n dX6_exchange_11 rfl rfl ?_
    obtain ⟨a_5, ra_5, hf⟩ := z_rd_some hf
    refine zgR fl_X6_15 h0 (fun _ => rfl) ra_5 dX6_exchange_12 (fun ha_5 => ?_)
    refine z_iload_n dX6_exchange_15 rfl rfl ?_
    obtain ⟨v_6, M_7, c_8, hf⟩ := z_call_some hf
    refine z_cVi (t_X8_hasGuest ha_5 c_8) kw_X8_hasGuest lk_X6_78 ha_5 rfl (by decide) rfl (Nat.le_of_ble_eq_true rfl) ⟨Nat.le_refl 0, Nat.le_refl 0⟩ dX6_exchange_16 ?_
    refine z_if_ne (tgt := 33) dX6_exchange_19 (by decide) (fun q_9 => ?_) (fun q_9 => ?_)
    · have hf := (if_neg q_9).symm.trans hf
      refine zA.pick [(0, .ref x0), (1, .int x1), (3, .int v_1)] [1, 2, 0] rfl ?_
      exact t_X6_exchange_33 h0 hf
    · have hf := (if_pos q_9).symm.trans hf
      refine z_aload_n dX6_exchange_22 rfl rfl ?_
      obtain ⟨a_10, ra_10, hf⟩ := z_rd_some hf
      refine zgR fl_X6_15 h0 (fun _ => rfl) ra_10 dX6_exchange_23 (fun ha_10 => ?_)
      refine z_iload_n dX6_exchange_26 rfl rfl ?_
      obtain ⟨v_11, M_12, c_13, hf⟩ := z_call_some hf
      refine z_cVi (t_X8_hasGuest ha_10 c_13) kw_X8_hasGuest lk_X6_78 ha_10 rfl (by decide) rfl (Nat.le_of_ble_eq_true rfl) ⟨Nat.le_refl 0, Nat.le_refl 0⟩ dX6_exchange_27 ?_
      refine z_if_eq (tgt := 45) dX6_exchange_30 (by decide) (fun q_14 => ?_) (fun q_14 => ?_)
      · have hf := (if_pos q_14).symm.trans hf
        refine z_aload_n dX6_exchange_45 rfl rfl ?_
        obtain ⟨a_15, ra_15, hf⟩ := z_rd_some hf
        refine zgR fl_X6_9 h0 (fun _ => rfl) ra_15 dX6_exchange_46 (fun ha_15 => ?_)
        refine z_bipush (v := 7) dX6_exchange_49 (by decide) ?_
        refine z_iload_n dX6_exchange_51 rfl rfl ?_
        obtain ⟨v_16, M_17, c_18, hf⟩ := z_call_some hf
        refine z_cVv (t_X10_failAt ha_15 c_18) kw_X10_failAt lk_X6_44 ha_15 rfl (by decide) rfl (Nat.le_of_ble_eq_true rfl) ⟨Nat.le_refl 0, Nat.le_refl 0⟩ dX6_exchange_52 ?_
        obtain ⟨rfl, rfl⟩ := z_end hf
        exact z_vret ⟨rfl, rfl, rfl⟩ rfl dX6_exchange_55
      · have hf := (if_neg q_14).symm.trans hf
        refine zA.pick [(0, .ref x0), (1, .int x1), (3, .int v_1)] [1, 2, 0] rfl ?_
        exact t_X6_exchange_33 h0 hf
  · have hf := (if_pos q_4).symm.trans hf
    obtain ⟨rfl, rfl⟩ := z_end hf
    exact z_vret ⟨rfl, rfl, rfl⟩ rfl dX6_exchange_10
noncomputable def f_X6_doLine (x0 : Nat) (M : zM) : Option (Unit × zM) :=
  z_call (f_X6_readRoom x0 M) fun v_1 M_2 => (if v_1 = (-1) then some ((), M_2) else z_rd (M_2.2.1 x0 0) fun a_5 => zl ((M_2.1 a_5 3)) fun x2_6 => z_rd (M_2.2.1 x0 0) fun a_7 => z_call (f_X10_sign a_7 M_2) fun v_8 M_9 => z_rd (M_9.2.1 x0 0) fun a_11 => z_call (f_X10_step a_11 M_9) fun v_12 M_13 => (if v_8 = 33 then z_call (f_X6_sendAway x0 v_1 x2_6 M_13) fun v_16 M_17 => some ((), M_17) else if v_8 = 60 then z_rd (M_13.2.1 x0 1) fun a_20 => z_call (f_X8_setLouvre a_20 v_1 0 M_13) fun v_21 M_22 => some ((), M_22) else if v_8 = 61 then z_call (f_X6_takeIn x0 v_1 M_13) fun v_25 M_26 => some ((), M_26) else if v_8 = 62 then z_rd (M_13.2.1 x0 1) fun a_29 => z_call (f_X8_setLouvre a_29 v_1 2 M_13) fun v_30 M_31 => some ((), M_31) else if v_8 = 64 then z_call (f_X6_exchange x0 v_1 x2_6 M_13) fun v_34 M_35 => some ((), M_35) else if v_8 = 111 then z_rd (M_13.2.1 x0 1) fun a_38 => z_call (f_X8_setGrille a_38 v_1 1 M_13) fun v_39 M_40 => some ((), M_40) else if v_8 = 115 then z_rd (M_13.2.1 x0 1) fun a_43 => z_call (f_X8_setGrille a_43 v_1 0 M_13) fun v_44 M_45 => some ((), M_45) else if v_8 = 124 then z_rd (M_13.2.1 x0 1) fun a_48 => z_call (f_X8_setLouvre a_48 v_1 1 M_13) fun v_49 M_50 => some ((), M_50) else z_rd (M_13.2.1 x0 0) fun a_52 => z_call (f_X10_failAt a_52 1 x2_6 M_13) fun v_53 M_54 => some ((), M_54)))
set_option maxHeartbeats 2000000 in
set_option maxRecDepth 20000 in
theorem t_X6_doLine {l : Launch} {x0 : Nat} {M MO : zM} {v : Unit} (h0 : z_tm SH 6 x0) (hf : f_X6_doLine x0 M = some (v, MO)) : zMet l yX6_doLine cX6_doLine 4 none 5 0 0 [.ref x0] SH M (zDv SH MO) := by
  refine zMet.of (by decide +kernel) (Nat.le_of_ble_eq_true rfl) (Or.inl rfl) ?_
  show zA l yX6_doLine cX6_doLine 4 none 5 0 0 SH.length (zDv SH MO) 0 0 0 [(0, .ref x0)] [] SH M
  unfold f_X6_doLine at hf
  refine z_aload_n dX6_doLine_0 rfl rfl ?_
  obtain ⟨v_1, M_2, c_3, hf⟩ := z_call_some hf
  refine z_cVi (t_X6_readRoom h0 c_3) kw_X6_readRoom lk_X6_48 h0 rfl (by decide) rfl (Nat.le_of_ble_eq_true rfl) ⟨Nat.le_refl 0, Nat.le_refl 0⟩ dX6_doLine_1 ?_
  refine z_istore_n' (lv' := [(1, .int v_1), (0, .ref x0)]) rfl dX6_doLine_4 (by decide) rfl rfl ?_
  refine z_iload_n dX6_doLine_5 rfl rfl ?_
  refine z_iconst (v := (-1)) dX6_doLine_6 (by decide) ?_
  refine z_icmp_ne (tgt := 11) dX6_doLine_7 (by decide) (fun q_4 => ?_) (fun q_4 => ?_)
  · have hf := (if_neg q_4).symm.trans hf
    refine z_aload_n dX6_doLine_11 rfl rfl ?_
    obtain ⟨a_5, ra_5, hf⟩ := z_rd_some hf
    refine zgR fl_X6_9 h0 (fun _ => rfl) ra_5 dX6_doLine_12 (fun ha_5 => ?_)
    refine zgI fl_X6_40 ha_5 (fun _ => rfl) dX6_doLine_15 ?_
    obtain ⟨x2_6, ex2_6, hf⟩ := zl_some hf
    refine z_istore_n' (lv' := [(2, .int x2_6), (1, .int v_1), (0, .ref x0)]) rfl dX6_doLine_18 (by decide) ex2_6 rfl ?_
    refine z_aload_n dX6_doLine_19 rfl rfl ?_
    obtain ⟨a_7, ra_7, hf⟩ := z_rd_some hf
    refine zgR fl_X6_9 h0 (fun _ => rfl) ra_7 dX6_doLine_20 (fun ha_7 => ?_)
    obtain ⟨v_8, M_9, c_10, hf⟩ := z_call_some hf
    refine z_cVi (t_X10_sign ha_7 c_10) kw_X10_sign lk_X6_32 ha_7 rfl (by decide) rfl (Nat.le_of_ble_eq_true rfl) ⟨Nat.le_refl 0, Nat.le_refl 0⟩ dX6_doLine_23 ?_
    refine z_istore_n' (lv' := [(3, .int v_8), (2, .int x2_6), (1, .int v_1), (0, .ref x0)]) rfl dX6_doLine_26 (by decide) rfl rfl ?_
    refine z_aload_n dX6_doLine_27 rfl rfl ?_
    obtain ⟨a_11, ra_11, hf⟩ := z_rd_some hf
    refine zgR fl_X6_9 h0 (fun _ => rfl) ra_11 dX6_doLine_28 (fun ha_11 => ?_)
    obtain ⟨v_12, M_13, c_14, hf⟩ := z_call_some hf
    refine z_cVv (t_X10_step ha_11 c_14) kw_X10_step lk_X6_51 ha_11 rfl (by decide) rfl (Nat.le_of_ble_eq_true rfl) ⟨Nat.le_refl 0, Nat.le_refl 0⟩ dX6_doLine_31 ?_
    refine z_iload_n dX6_doLine_34 rfl rfl ?_
    by_cases q_15 : v_8 = 33
    · have hf := (if_pos q_15).symm.trans hf
      refine z_look (tgt := 116) (off := 81) dX6_doLine_35 (by decide) (by rw [q_15]; first | rfl | decide) (by decide) ?_
      refine z_aload_n dX6_doLine_116 rfl rfl ?_
      refine z_iload_n dX6_doLine_117 rfl rfl ?_
      refine z_iload_n dX6_doLine_118 rfl rfl ?_
      obtain ⟨v_16, M_17, c_18, hf⟩ := z_call_some hf
      refine z_cVv (t_X6_sendAway h0 c_18) kw_X6_sendAway lk_X6_57 h0 rfl (by decide) rfl (Nat.le_of_ble_eq_true rfl) ⟨Nat.le_refl 0, Nat.le_refl 0⟩ dX6_doLine_119 ?_
      refine z_goto (tgt := 203) dX6_doLine_122 (by decide) ?_
      obtain ⟨rfl, rfl⟩ := z_end hf
      exact z_vret ⟨rfl, rfl, rfl⟩ rfl dX6_doLine_203
    have hf := (if_neg q_15).symm.trans hf
    by_cases q_19 : v_8 = 60
    · have hf := (if_pos q_19).symm.trans hf
      refine z_look (tgt := 158) (off := 123) dX6_doLine_35 (by decide) (by rw [q_19]; first | rfl | decide) (by decide) ?_
      refine z_aload_n dX6_doLine_158 rfl rfl ?_
      obtain ⟨a_20, ra_20, hf⟩ := z_rd_some hf
      refine zgR fl_X6_15 h0 (fun _ => rfl) ra_20 dX6_doLine_159 (fun ha_20 => ?_)
      refine z_iload_n dX6_doLine_162 rfl rfl ?_
      refine z_iconst (v := 0) dX6_doLine_163 (by decide) ?_
      obtain ⟨v_21, M_22, c_23, hf⟩ := z_call_some hf
      refine z_cVv (t_X8_setLouvre ha_20 c_23) kw_X8_setLouvre lk_X6_69 ha_20 rfl (by decide) rfl (Nat.le_of_ble_eq_true rfl) ⟨Nat.le_refl 0, Nat.le_refl 0⟩ dX6_doLine_164 ?_
      refine z_goto (tgt := 203) dX6_doLine_167 (by decide) ?_
      obtain ⟨rfl, rfl⟩ := z_end hf
      exact z_vret ⟨rfl, rfl, rfl⟩ rfl dX6_doLine_203
    have hf := (if_neg q_19).symm.trans hf
    by_cases q_24 : v_8 = 61
    · have hf := (if_pos q_24).symm.trans hf
      refine z_look (tgt := 108) (off := 73) dX6_doLine_35 (by decide) (by rw [q_24]; first | rfl | decide) (by decide) ?_
      refine z_aload_n dX6_doLine_108 rfl rfl ?_
      refine z_iload_n dX6_doLine_109 rfl rfl ?_
      obtain ⟨v_25, M_26, c_27, hf⟩ := z_call_some hf
      refine z_cVv (t_X6_takeIn h0 c_27) kw_X6_takeIn lk_X6_54 h0 rfl (by decide) rfl (Nat.le_of_ble_eq_true rfl) ⟨Nat.le_refl 0, Nat.le_refl 0⟩ dX6_doLine_110 ?_
      refine z_goto (tgt := 203) dX6_doLine_113 (by decide) ?_
      obtain ⟨rfl, rfl⟩ := z_end hf
      exact z_vret ⟨rfl, rfl, rfl⟩ rfl dX6_doLine_203
    have hf := (if_neg q_24).symm.trans hf
    by_cases q_28 : v_8 = 62
    · have hf := (if_pos q_28).symm.trans hf
      refine z_look (tgt := 182) (off := 147) dX6_doLine_35 (by decide) (by rw [q_28]; first | rfl | decide) (by decide) ?_
      refine z_aload_n dX6_doLine_182 rfl rfl ?_
      obtain ⟨a_29, ra_29, hf⟩ := z_rd_some hf
      refine zgR fl_X6_15 h0 (fun _ => rfl) ra_29 dX6_doLine_183 (fun ha_29 => ?_)
      refine z_iload_n dX6_doLine_186 rfl rfl ?_
      refine z_iconst (v := 2) dX6_doLine_187 (by decide) ?_
      obtain ⟨v_30, M_31, c_32, hf⟩ := z_call_some hf
      refine z_cVv (t_X8_setLouvre ha_29 c_32) kw_X8_setLouvre lk_X6_69 ha_29 rfl (by decide) rfl (Nat.le_of_ble_eq_true rfl) ⟨Nat.le_refl 0, Nat.le_refl 0⟩ dX6_doLine_188 ?_
      refine z_goto (tgt := 203) dX6_doLine_191 (by decide) ?_
      obtain ⟨rfl, rfl⟩ := z_end hf
      exact z_vret ⟨rfl, rfl, rfl⟩ rfl dX6_doLine_203
    have hf := (if_neg q_28).symm.trans hf
    by_cases q_33 : v_8 = 64
    · have hf := (if_pos q_33).symm.trans hf
      refine z_look (tgt := 125) (off := 90) dX6_doLine_35 (by decide) (by rw [q_33]; first | rfl | decide) (by decide) ?_
      refine z_aload_n dX6_doLine_125 rfl rfl ?_
      refine z_iload_n dX6_doLine_126 rfl rfl ?_
      refine z_iload_n dX6_doLine_127 rfl rfl ?_
      obtain ⟨v_34, M_35, c_36, hf⟩ := z_call_some hf
      refine z_cVv (t_X6_exchange h0 c_36) kw_X6_exchange lk_X6_60 h0 rfl (by decide) rfl (Nat.le_of_ble_eq_true rfl) ⟨Nat.le_refl 0, Nat.le_refl 0⟩ dX6_doLine_128 ?_
      refine z_goto (tgt := 203) dX6_doLine_131 (by decide) ?_
      obtain ⟨rfl, rfl⟩ := z_end hf
      exact z_vret ⟨rfl, rfl, rfl⟩ rfl dX6_doLine_203
    have hf := (if_neg q_33).symm.trans hf
    by_cases q_37 : v_8 = 111
    · have hf := (if_pos q_37).symm.trans hf
      refine z_look (tgt := 134) (off := 99) dX6_doLine_35 (by decide) (by rw [q_37]; first | rfl | decide) (by decide) ?_
      refine z_aload_n dX6_doLine_134 rfl rfl ?_
      obtain ⟨a_38, ra_38, hf⟩ := z_rd_some hf
      refine zgR fl_X6_15 h0 (fun _ => rfl) ra_38 dX6_doLine_135 (fun ha_38 => ?_)
      refine z_iload_n dX6_doLine_138 rfl rfl ?_
      refine z_iconst (v := 1) dX6_doLine_139 (by decide) ?_
      obtain ⟨v_39, M_40, c_41, hf⟩ := z_call_some hf
      refine z_cVv (t_X8_setGrille ha_38 c_41) kw_X8_setGrille lk_X6_63 ha_38 rfl (by decide) rfl (Nat.le_of_ble_eq_true rfl) ⟨Nat.le_refl 0, Nat.le_refl 0⟩ dX6_doLine_140 ?_
      refine z_goto (tgt := 203) dX6_doLine_143 (by decide) ?_
      obtain ⟨rfl, rfl⟩ := z_end hf
      exact z_vret ⟨rfl, rfl, rfl⟩ rfl dX6_doLine_203
    have hf := (if_neg q_37).symm.trans hf
    by_cases q_42 : v_8 = 115
    · have hf := (if_pos q_42).symm.trans hf
      refine z_look (tgt := 146) (off := 111) dX6_doLine_35 (by decide) (by rw [q_42]; first | rfl | decide) (by decide) ?_
      refine z_aload_n dX6_doLine_146 rfl rfl ?_
      obtain ⟨a_43, ra_43, hf⟩ := z_rd_some hf
      refine zgR fl_X6_15 h0 (fun _ => rfl) ra_43 dX6_doLine_147 (fun ha_43 => ?_)
      refine z_iload_n dX6_doLine_150 rfl rfl ?_
      refine z_iconst (v := 0) dX6_doLine_151 (by decide) ?_
      obtain ⟨v_44, M_45, c_46, hf⟩ := z_call_some hf
      refine z_cVv (t_X8_setGrille ha_43 c_46) kw_X8_setGrille lk_X6_63 ha_43 rfl (by decide) rfl (Nat.le_of_ble_eq_true rfl) ⟨Nat.le_refl 0, Nat.le_refl 0⟩ dX6_doLine_152 ?_
      refine z_goto (tgt := 203) dX6_doLine_155 (by decide) ?_
      obtain ⟨rfl, rfl⟩ := z_end hf
      exact z_vret ⟨rfl, rfl, rfl⟩ rfl dX6_doLine_203
    have hf := (if_neg q_42).symm.trans hf
    by_cases q_47 : v_8 = 124
    · have hf := (if_pos q_47).symm.trans hf
      refine z_look (tgt := 170) (off := 135) dX6_doLine_35 (by decide) (by rw [q_47]; first | rfl | decide) (by decide) ?_
      refine z_aload_n dX6_doLine_170 rfl rfl ?_
      obtain ⟨a_48, ra_48, hf⟩ := z_rd_some hf
      refine zgR fl_X6_15 h0 (fun _ => rfl) ra_48 dX6_doLine_171 (fun ha_48 => ?_)
      refine z_iload_n dX6_doLine_174 rfl rfl ?_
      refine z_iconst (v := 1) dX6_doLine_175 (by decide) ?_
      obtain ⟨v_49, M_50, c_51, hf⟩ := z_call_some hf
      refine z_cVv (t_X8_setLouvre ha_48 c_51) kw_X8_setLouvre lk_X6_69 ha_48 rfl (by decide) rfl (Nat.le_of_ble_eq_true rfl) ⟨Nat.le_refl 0, Nat.le_refl 0⟩ dX6_doLine_176 ?_
      refine z_goto (tgt := 203) dX6_doLine_179 (by decide) ?_
      obtain ⟨rfl, rfl⟩ := z_end hf
      exact z_vret ⟨rfl, rfl, rfl⟩ rfl dX6_doLine_203
    have hf := (if_neg q_47).symm.trans hf
    refine z_look (tgt := 194) (off := 159) dX6_doLine_35 (by decide) (by rw [lv_osw q_15 (by decide)]; rw [lv_osw q_19 (by decide)]; rw [lv_osw q_24 (by decide)]; rw [lv_osw q_28 (by decide)]; rw [lv_osw q_33 (by decide)]; rw [lv_osw q_37 (by decide)]; rw [lv_osw q_42 (by decide)]; rw [lv_osw q_47 (by decide)]; rfl) (by decide) ?_
    refine z_aload_n dX6_doLine_194 rfl rfl ?_
    obtain ⟨a_52, ra_52, hf⟩ := z_rd_some hf
    refine zgR fl_X6_9 h0 (fun _ => rfl) ra_52 dX6_doLine_195 (fun ha_52 => ?_)
    refine z_iconst (v := 1) dX6_doLine_198 (by decide) ?_
    refine z_iload_n dX6_doLine_199 rfl rfl ?_
    obtain ⟨v_53, M_54, c_55, hf⟩ := z_call_some hf
    refine z_cVv (t_X10_failAt ha_52 c_55) kw_X10_failAt lk_X6_44 ha_52 rfl (by decide) rfl (Nat.le_of_ble_eq_true rfl) ⟨Nat.le_refl 0, Nat.le_refl 0⟩ dX6_doLine_200 ?_
    obtain ⟨rfl, rfl⟩ := z_end hf
    exact z_vret ⟨rfl, rfl, rfl⟩ rfl dX6_doLine_203
  · have hf := (if_pos q_4).symm.trans hf
    obtain ⟨rfl, rfl⟩ := z_end hf
    exact z_vret ⟨rfl, rfl, rfl⟩ rfl dX6_doLine_10
noncomputable def f_X6_read_66 (x0 : Nat) (s0 : Nat) (s1 : Int32) (M : zM) : Option (Int32 × zM) :=
  z_rd (M.2.1 x0 0) fun a_1 => z_call (f_X10_failAt s0 s1 (M.1 a_1 3) M) fun v_2 M_3 => some (20, M_3)
set_option maxHeartbeats 2000000 in
set_option maxRecDepth 20000 in
theorem t_X6_read_66 {l : Launch} {x0 : Nat} {s0 : Nat} {s1 : Int32} {M MO : zM} {v : Int32} (h0 : z_tm SH 6 x0) (hs0 : z_tm SH 9 s0) (hf : f_X6_read_66 x0 s0 s1 M = some (v, MO)) : zA l yX6_read cX6_read 3 (some .int) 6 0 0 SH.length (zDi SH v MO) 0 0 66 [(0, .ref x0)] [.int s1, .ref s0] SH M := by
  unfold f_X6_read_66 at hf
  refine z_aload_n dX6_read_66 rfl rfl ?_
  obtain ⟨a_1, ra_1, hf⟩ := z_rd_some hf
  refine zgR fl_X6_9 h0 (fun _ => rfl) ra_1 dX6_read_67 (fun ha_1 => ?_)
  refine zgI fl_X6_40 ha_1 (fun _ => rfl) dX6_read_70 ?_
  obtain ⟨v_2, M_3, c_4, hf⟩ := z_call_some hf
  refine z_cVv (t_X10_failAt hs0 c_4) kw_X10_failAt lk_X6_44 hs0 rfl (by decide) rfl (Nat.le_of_ble_eq_true rfl) ⟨Nat.le_refl 0, Nat.le_refl 0⟩ dX6_read_73 ?_
  refine z_bipush (v := 20) dX6_read_76 (by decide) ?_
  obtain ⟨rfl, rfl⟩ := z_end hf
  exact z_iret ⟨rfl, rfl, rfl⟩ (Or.inl rfl) dX6_read_78
noncomputable def f_X6_read_7 (x0 : Nat) : Nat → Int32 → zM → Option (Int32 × zM)
  | 0, _, _ => none
  | n + 1, x2, M =>
    (if 20 < x2 then z_rd (M.2.1 x0 0) fun a_2 => z_rd (M.2.1 x0 0) fun a_3 => z_call (f_X10_sign a_3 M) fun v_4 M_5 => z_call (f_X10_isDigit v_4 M_5) fun v_7 M_8 => (if v_7 = 0 then (f_X6_read_66 x0 a_2 1 M_8) else (f_X6_read_66 x0 a_2 4 M_8)) else z_call (f_X6_doLine x0 M) fun v_11 M_12 => z_rd (M_12.2.1 x0 0) fun a_14 => z_call (f_X10_isOver a_14 M_12) fun v_15 M_16 => (if v_15 = 0 then z_rd (M_16.2.1 x0 0) fun a_19 => z_call (f_X10_expect a_19 59 M_16) fun v_20 M_21 => zl (x2 + 1) fun x2_23 => (f_X6_read_7 x0 n x2_23 M_21) else some (x2, M_16)))
set_option maxHeartbeats 2000000 in
set_option maxRecDepth 20000 in
theorem t_X6_read_7 {l : Launch} {x0 : Nat} {MO : zM} {v : Int32} (h0 : z_tm SH 6 x0) : ∀ (n : Nat) (x2 : Int32) (M : zM), f_X6_read_7 x0 n x2 M = some (v, MO) → zA l yX6_read cX6_read 3 (some .int) 6 0 0 SH.length (zDi SH v MO) 0 0 7 [(0, .ref x0), (2, .int x2)] [] SH M := by
  intro n
  induction n with
  | zero =>
    intro x2 M hf
    rw [f_X6_read_7] at hf
    cases hf
  | succ n ih =>
    intro x2 M hf
    rw [f_X6_read_7] at hf
    refine z_iload_n dX6_read_7 rfl rfl ?_
    refine z_bipush (v := 20) dX6_read_8 (by decide) ?_
    refine z_icmp_gt (tgt := 44) dX6_read_10 (by decide) (fun q_1 => ?_) (fun q_1 => ?_)
    · have hf := (if_pos q_1).symm.trans hf
      refine z_aload_n dX6_read_44 rfl rfl ?_
      obtain ⟨a_2, ra_2, hf⟩ := z_rd_some hf
      refine zgR fl_X6_9 h0 (fun _ => rfl) ra_2 dX6_read_45 (fun ha_2 => ?_)
      refine z_aload_n dX6_read_48 rfl rfl ?_
      obtain ⟨a_3, ra_3, hf⟩ := z_rd_some hf
      refine zgR fl_X6_9 h0 (fun _ => rfl) ra_3 dX6_read_49 (fun ha_3 => ?_)
      obtain ⟨v_4, M_5, c_6, hf⟩ := z_call_some hf
      refine z_cVi (t_X10_sign ha_3 c_6) kw_X10_sign lk_X6_32 ha_3 rfl (by decide) rfl (Nat.le_of_ble_eq_true rfl) ⟨Nat.le_refl 0, Nat.le_refl 0⟩ dX6_read_52 ?_
      obtain ⟨v_7, M_8, c_9, hf⟩ := z_call_some hf
      refine z_cSi (t_X10_isDigit  c_9) kw_X10_isDigit lk_X6_36 rfl (by decide) rfl (Nat.le_of_ble_eq_true rfl) ⟨Nat.le_refl 0, Nat.le_refl 0⟩ dX6_read_55 ?_
      refine z_if_eq (tgt := 65) dX6_read_58 (by decide) (fun q_10 => ?_) (fun q_10 => ?_)
      · have hf := (if_pos q_10).symm.trans hf
        refine z_iconst (v := 1) dX6_read_65 (by decide) ?_
        refine zA.pick [(0, .ref x0)] [0] rfl ?_
        exact t_X6_read_66 h0 ha_2 hf
      · have hf := (if_neg q_10).symm.trans hf
        refine z_iconst (v := 4) dX6_read_61 (by decide) ?_
        refine z_goto (tgt := 66) dX6_read_62 (by decide) ?_
        refine zA.pick [(0, .ref x0)] [0] rfl ?_
        exact t_X6_read_66 h0 ha_2 hf
    · have hf := (if_neg q_1).symm.trans hf
      refine z_aload_n dX6_read_13 rfl rfl ?_
      obtain ⟨v_11, M_12, c_13, hf⟩ := z_call_some hf
      refine z_cVv (t_X6_doLine h0 c_13) kw_X6_doLine lk_X6_19 h0 rfl (by decide) rfl (Nat.le_of_ble_eq_true rfl) ⟨Nat.le_refl 0, Nat.le_refl 0⟩ dX6_read_14 ?_
      refine z_aload_n dX6_read_17 rfl rfl ?_
      obtain ⟨a_14, ra_14, hf⟩ := z_rd_some hf
      refine zgR fl_X6_9 h0 (fun _ => rfl) ra_14 dX6_read_18 (fun ha_14 => ?_)
      obtain ⟨v_15, M_16, c_17, hf⟩ := z_call_some hf
      refine z_cVi (t_X10_isOver ha_14 c_17) kw_X10_isOver lk_X6_22 ha_14 rfl (by decide) rfl (Nat.le_of_ble_eq_true rfl) ⟨Nat.le_refl 0, Nat.le_refl 0⟩ dX6_read_21 ?_
      refine z_if_eq (tgt := 29) dX6_read_24 (by decide) (fun q_18 => ?_) (fun q_18 => ?_)
      · have hf := (if_pos q_18).symm.trans hf
        refine z_aload_n dX6_read_29 rfl rfl ?_
        obtain ⟨a_19, ra_19, hf⟩ := z_rd_some hf
        refine zgR fl_X6_9 h0 (fun _ => rfl) ra_19 dX6_read_30 (fun ha_19 => ?_)
        refine z_bipush (v := 59) dX6_read_33 (by decide) ?_
        obtain ⟨v_20, M_21, c_22, hf⟩ := z_call_some hf
        refine z_cVv (t_X10_expect ha_19 c_22) kw_X10_expect lk_X6_28 ha_19 rfl (by decide) rfl (Nat.le_of_ble_eq_true rfl) ⟨Nat.le_refl 0, Nat.le_refl 0⟩ dX6_read_35 ?_
        obtain ⟨x2_23, ex2_23, hf⟩ := zl_some hf
        refine z_iinc' (lv' := [(2, .int x2_23), (0, .ref x0)]) dX6_read_38 rfl (by decide) ex2_23 (by decide) rfl ?_
        refine z_goto (tgt := 7) dX6_read_41 (by decide) ?_
        refine zA.pick [(0, .ref x0), (2, .int x2_23)] [1, 0] rfl ?_
        exact ih x2_23 M_21 hf
      · have hf := (if_neg q_18).symm.trans hf
        refine z_iload_n dX6_read_27 rfl rfl ?_
        obtain ⟨rfl, rfl⟩ := z_end hf
        exact z_iret ⟨rfl, rfl, rfl⟩ (Or.inl rfl) dX6_read_28
noncomputable def f_X6_read (x0 : Nat) (x1 : Nat) (M : zM) : Option (Int32 × zM) :=
  zl (M.1, zu M.2.1 x0 1 (some x1), M.2.2) fun M_1 => (f_X6_read_7 x0 zF 1 M_1)
set_option maxHeartbeats 2000000 in
set_option maxRecDepth 20000 in
theorem t_X6_read {l : Launch} {x0 : Nat} {x1 : Nat} {M MO : zM} {v : Int32} (h0 : z_tm SH 6 x0) (h1 : z_tm SH 8 x1) (hf : f_X6_read x0 x1 M = some (v, MO)) : zMet l yX6_read cX6_read 3 (some .int) 6 0 0 [.ref x0, .ref x1] SH M (zDi SH v MO) := by
  refine zMet.of (by decide +kernel) (Nat.le_of_ble_eq_true rfl) (Or.inr (Or.inl rfl)) ?_
  show zA l yX6_read cX6_read 3 (some .int) 6 0 0 SH.length (zDi SH v MO) 0 0 0 [(0, .ref x0), (1, .ref x1)] [] SH M
  unfold f_X6_read at hf
  refine z_aload_n dX6_read_0 rfl rfl ?_
  refine z_aload_n dX6_read_1 rfl rfl ?_
  obtain ⟨M_1, eM_1, hf⟩ := zl_some hf
  refine zpR fl_X6_15 h0 rfl (Or.inl ⟨_, rfl⟩) h1 eM_1 dX6_read_2 ?_
  refine z_iconst (v := 1) dX6_read_5 (by decide) ?_
  refine z_istore_n' (lv' := [(2, .int 1), (0, .ref x0), (1, .ref x1)]) rfl dX6_read_6 (by decide) rfl rfl ?_
  refine zA.pick [(0, .ref x0), (2, .int 1)] [1, 0] rfl ?_
  exact t_X6_read_7 h0 zF 1 M_1 hf
noncomputable def f_X2_lowestAbove (x0 : Int32) (M : zM) : Option (Int32 × zM) :=
  z_call (f_X11_floorOf x0 M) fun v_1 M_2 => z_call (f_X11_columnOf x0 M_2) fun v_4 M_5 => z_call (f_X11_columnBy v_4 0 M_5) fun v_7 M_8 => some ((((z_min (v_1 + 1) 5) * 4) + v_7), M_8)
set_option maxHeartbeats 2000000 in
set_option maxRecDepth 20000 in
theorem t_X2_lowestAbove {l : Launch} {x0 : Int32} {M MO : zM} {v : Int32} (hf : f_X2_lowestAbove x0 M = some (v, MO)) : zMet l yX2_lowestAbove cX2_lowestAbove 1 (some .int) 2 0 0 [.int x0] SH M (zDi SH v MO) := by
  refine zMet.of (by decide +kernel) (Nat.le_of_ble_eq_true rfl) (Or.inr (Or.inl rfl)) ?_
  show zA l yX2_lowestAbove cX2_lowestAbove 1 (some .int) 2 0 0 SH.length (zDi SH v MO) 0 0 0 [(0, .int x0)] [] SH M
  unfold f_X2_lowestAbove at hf
  refine z_iload_n dX2_lowestAbove_0 rfl rfl ?_
  obtain ⟨v_1, M_2, c_3, hf⟩ := z_call_some hf
  refine z_cSi (t_X11_floorOf  c_3) kw_X11_floorOf lk_X2_22 rfl (by decide) rfl (Nat.le_of_ble_eq_true rfl) ⟨Nat.le_refl 0, Nat.le_refl 0⟩ dX2_lowestAbove_1 ?_
  refine z_iconst (v := 1) dX2_lowestAbove_4 (by decide) ?_
  refine z_iadd dX2_lowestAbove_5 ?_
  refine z_iconst (v := 5) dX2_lowestAbove_6 (by decide) ?_
  refine z_mmin mm_X2_52 mm_smin mm_ini mm_cmin (by decide) (Nat.le_of_ble_eq_true rfl) dX2_lowestAbove_7 ?_
  refine z_iconst (v := 4) dX2_lowestAbove_10 (by decide) ?_
  refine z_imul dX2_lowestAbove_11 ?_
  refine z_iload_n dX2_lowestAbove_12 rfl rfl ?_
  obtain ⟨v_4, M_5, c_6, hf⟩ := z_call_some hf
  refine z_cSi (t_X11_columnOf  c_6) kw_X11_columnOf lk_X2_30 rfl (by decide) rfl (Nat.le_of_ble_eq_true rfl) ⟨Nat.le_refl 0, Nat.le_refl 0⟩ dX2_lowestAbove_13 ?_
  refine z_iconst (v := 0) dX2_lowestAbove_16 (by decide) ?_
  obtain ⟨v_7, M_8, c_9, hf⟩ := z_call_some hf
  refine z_cSi (t_X11_columnBy  c_9) kw_X11_columnBy lk_X2_69 rfl (by decide) rfl (Nat.le_of_ble_eq_true rfl) ⟨Nat.le_refl 0, Nat.le_refl 0⟩ dX2_lowestAbove_17 ?_
  refine z_iadd dX2_lowestAbove_20 ?_
  obtain ⟨rfl, rfl⟩ := z_end hf
  exact z_iret ⟨rfl, rfl, rfl⟩ (Or.inl rfl) dX2_lowestAbove_21
noncomputable def f_X2_highestAbove (x0 : Int32) (M : zM) : Option (Int32 × zM) :=
  z_call (f_X11_floorOf x0 M) fun v_1 M_2 => z_call (f_X11_columnOf x0 M_2) fun v_4 M_5 => z_call (f_X11_columnBy v_4 2 M_5) fun v_7 M_8 => some ((((z_min (v_1 + 1) 5) * 4) + v_7), M_8)
set_option maxHeartbeats 2000000 in
set_option maxRecDepth 20000 in
theorem t_X2_highestAbove {l : Launch} {x0 : Int32} {M MO : zM} {v : Int32} (hf : f_X2_highestAbove x0 M = some (v, MO)) : zMet l yX2_highestAbove cX2_highestAbove 1 (some .int) 2 0 0 [.int x0] SH M (zDi SH v MO) := by
  refine zMet.of (by decide +kernel) (Nat.le_of_ble_eq_true rfl) (Or.inr (Or.inl rfl)) ?_
  show zA l yX2_highestAbove cX2_highestAbove 1 (some .int) 2 0 0 SH.length (zDi SH v MO) 0 0 0 [(0, .int x0)] [] SH M
  unfold f_X2_highestAbove at hf
  refine z_iload_n dX2_highestAbove_0 rfl rfl ?_
  obtain ⟨v_1, M_2, c_3, hf⟩ := z_call_some hf
  refine z_cSi (t_X11_floorOf  c_3) kw_X11_floorOf lk_X2_22 rfl (by decide) rfl (Nat.le_of_ble_eq_true rfl) ⟨Nat.le_refl 0, Nat.le_refl 0⟩ dX2_highestAbove_1 ?_
  refine z_iconst (v := 1) dX2_highestAbove_4 (by decide) ?_
  refine z_iadd dX2_highestAbove_5 ?_
  refine z_iconst (v := 5) dX2_highestAbove_6 (by decide) ?_
  refine z_mmin mm_X2_52 mm_smin mm_ini mm_cmin (by decide) (Nat.le_of_ble_eq_true rfl) dX2_highestAbove_7 ?_
  refine z_iconst (v := 4) dX2_highestAbove_10 (by decide) ?_
  refine z_imul dX2_highestAbove_11 ?_
  refine z_iload_n dX2_highestAbove_12 rfl rfl ?_
  obtain ⟨v_4, M_5, c_6, hf⟩ := z_call_some hf
  refine z_cSi (t_X11_columnOf  c_6) kw_X11_columnOf lk_X2_30 rfl (by decide) rfl (Nat.le_of_ble_eq_true rfl) ⟨Nat.le_refl 0, Nat.le_refl 0⟩ dX2_highestAbove_13 ?_
  refine z_iconst (v := 2) dX2_highestAbove_16 (by decide) ?_
  obtain ⟨v_7, M_8, c_9, hf⟩ := z_call_some hf
  refine z_cSi (t_X11_columnBy  c_9) kw_X11_columnBy lk_X2_69 rfl (by decide) rfl (Nat.le_of_ble_eq_true rfl) ⟨Nat.le_refl 0, Nat.le_refl 0⟩ dX2_highestAbove_17 ?_
  refine z_iadd dX2_highestAbove_20 ?_
  obtain ⟨rfl, rfl⟩ := z_end hf
  exact z_iret ⟨rfl, rfl, rfl⟩ (Or.inl rfl) dX2_highestAbove_21
noncomputable def f_X2_turnsBy (x0 : Nat) (x1 : Nat) (x2 : Int32) (x3 : Int32) (M : zM) : Option (Int32 × zM) :=
  z_rd (M.2.1 x0 0) fun a_1 => if z_ix x3 (z_ln SH a_1) = true then z_call (f_X8_above x1 x2 M) fun v_3 M_4 => (if v_3 = x3 then some (((M.1 a_1 (x3 : Int32).toNatClampNeg) + 0), M_4) else some (((M.1 a_1 (x3 : Int32).toNatClampNeg) + 1), M_4)) else none
set_option maxHeartbeats 2000000 in
set_option maxRecDepth 20000 in
theorem t_X2_turnsBy {l : Launch} {x0 : Nat} {x1 : Nat} {x2 : Int32} {x3 : Int32} {M MO : zM} {v : Int32} (h0 : z_tm SH 2 x0) (h1 : z_tm SH 8 x1) (hf : f_X2_turnsBy x0 x1 x2 x3 M = some (v, MO)) : zMet l yX2_turnsBy cX2_turnsBy 4 (some .int) 3 0 0 [.ref x0, .ref x1, .int x2, .int x3] SH M (zDi SH v MO) := by
  refine zMet.of (by decide +kernel) (Nat.le_of_ble_eq_true rfl) (Or.inr (Or.inl rfl)) ?_
  show zA l yX2_turnsBy cX2_turnsBy 4 (some .int) 3 0 0 SH.length (zDi SH v MO) 0 0 0 [(0, .ref x0), (1, .ref x1), (2, .int x2), (3, .int x3)] [] SH M
  unfold f_X2_turnsBy at hf
  refine z_aload_n dX2_turnsBy_0 rfl rfl ?_
  obtain ⟨a_1, ra_1, hf⟩ := z_rd_some hf
  refine zgR fl_X2_9 h0 (fun _ => rfl) ra_1 dX2_turnsBy_1 (fun ha_1 => ?_)
  refine z_iload_n dX2_turnsBy_4 rfl rfl ?_
  obtain ⟨g_2, hf⟩ := z_ifs hf
  refine z_iald ha_1 g_2 rfl dX2_turnsBy_5 ?_
  refine z_aload_n dX2_turnsBy_6 rfl rfl ?_
  refine z_iload_n dX2_turnsBy_7 rfl rfl ?_
  obtain ⟨v_3, M_4, c_5, hf⟩ := z_call_some hf
  refine z_cVi (t_X8_above h1 c_5) kw_X8_above lk_X2_58 h1 rfl (by decide) rfl (Nat.le_of_ble_eq_true rfl) ⟨Nat.le_refl 0, Nat.le_refl 0⟩ dX2_turnsBy_8 ?_
  refine z_iload_n dX2_turnsBy_11 rfl rfl ?_
  refine z_icmp_ne (tgt := 19) dX2_turnsBy_12 (by decide) (fun q_6 => ?_) (fun q_6 => ?_)
  · have hf := (if_neg q_6).symm.trans hf
    refine z_iconst (v := 1) dX2_turnsBy_19 (by decide) ?_
    refine z_iadd dX2_turnsBy_20 ?_
    obtain ⟨rfl, rfl⟩ := z_end hf
    exact z_iret ⟨rfl, rfl, rfl⟩ (Or.inl rfl) dX2_turnsBy_21
  · have hf := (if_pos q_6).symm.trans hf
    refine z_iconst (v := 0) dX2_turnsBy_15 (by decide) ?_
    refine z_goto (tgt := 20) dX2_turnsBy_16 (by decide) ?_
    refine z_iadd dX2_turnsBy_20 ?_
    obtain ⟨rfl, rfl⟩ := z_end hf
    exact z_iret ⟨rfl, rfl, rfl⟩ (Or.inl rfl) dX2_turnsBy_21
noncomputable def f_X2_fillFewestTurns_36 (x0 : Nat) (x1 : Nat) (k26 : Int32 → zM → Option (Unit × zM)) : Nat → Int32 → Int32 → zM → Option (Unit × zM)
  | 0, _, _, _ => none
  | n + 1, x3, x4, M =>
    z_call (f_X2_highestAbove x3 M) fun v_1 M_2 => (if v_1 < x4 then zl (x3 + (-1)) fun x3_5 => (k26 x3_5 M_2) else z_rd (M_2.2.1 x0 0) fun a_6 => z_rd (M_2.2.1 x0 0) fun a_7 => if z_ix x3 (z_ln SH a_7) = true then z_call (f_X2_turnsBy x0 x1 x3 x4 M_2) fun v_9 M_10 => if z_ix x3 (z_ln SH a_6) = true then zl (zu M_10.1 a_6 (x3 : Int32).toNatClampNeg (z_min (M_2.1 a_7 (x3 : Int32).toNatClampNeg) v_9), M_10.2) fun M_13 => zl (x4 + 1) fun x4_14 => (f_X2_fillFewestTurns_36 x0 x1 k26 n x3 x4_14 M_13) else none else none)
set_option maxHeartbeats 2000000 in
set_option maxRecDepth 20000 in
theorem t_X2_fillFewestTurns_36 {l : Launch} {x0 : Nat} {x1 : Nat} {k26 : Int32 → zM → Option (Unit × zM)} {MO : zM} {v : Unit} (h0 : z_tm SH 2 x0) (h1 : z_tm SH 8 x1) (hk26 : ∀ (x3 : Int32) (M : zM), k26 x3 M = some (v, MO) → zA l yX2_fillFewestTurns cX2_fillFewestTurns 5 none 4 0 0 SH.length (zDv SH MO) 0 0 26 [(0, .ref x0), (1, .ref x1), (3, .int x3)] [] SH M) : ∀ (n : Nat) (x3 : Int32) (x4 : Int32) (M : zM), f_X2_fillFewestTurns_36 x0 x1 k26 n x3 x4 M = some (v, MO) → zA l yX2_fillFewestTurns cX2_fillFewestTurns 5 none 4 0 0 SH.length (zDv SH MO) 0 0 36 [(0, .ref x0), (1, .ref x1), (3, .int x3), (4, .int x4)] [] SH M := by
  intro n
  induction n with
  | zero =>
    intro x3 x4 M hf
    rw [f_X2_fillFewestTurns_36] at hf
    cases hf
  | succ n ih =>
    intro x3 x4 M hf
    rw [f_X2_fillFewestTurns_36] at hf
    refine z_iload dX2_fillFewestTurns_36 rfl ?_
    refine z_iload_n dX2_fillFewestTurns_38 rfl rfl ?_
    obtain ⟨v_1, M_2, c_3, hf⟩ := z_call_some hf
    refine z_cSi (t_X2_highestAbove  c_3) kw_X2_highestAbove lk_X2_42 rfl (by decide) rfl (Nat.le_of_ble_eq_true rfl) ⟨Nat.le_refl 0, Nat.le_refl 0⟩ dX2_fillFewestTurns_39 ?_
    refine z_icmp_gt (tgt := 74) dX2_fillFewestTurns_42 (by decide) (fun q_4 => ?_) (fun q_4 => ?_)
    · have hf := (if_pos q_4).symm.trans hf
      obtain ⟨x3_5, ex3_5, hf⟩ := zl_some hf
      refine z_iinc' (lv' := [(3, .int x3_5), (0, .ref x0), (1, .ref x1), (4, .int x4)]) dX2_fillFewestTurns_74 rfl (by decide) ex3_5 (by decide) rfl ?_
      refine z_goto (tgt := 26) dX2_fillFewestTurns_77 (by decide) ?_
      refine zA.pick [(0, .ref x0), (1, .ref x1), (3, .int x3_5)] [1, 2, 0] rfl ?_
      exact hk26 x3_5 M_2 hf
    · have hf := (if_neg q_4).symm.trans hf
      refine z_aload_n dX2_fillFewestTurns_45 rfl rfl ?_
      obtain ⟨a_6, ra_6, hf⟩ := z_rd_some hf
      refine zgR fl_X2_9 h0 (fun _ => rfl) ra_6 dX2_fillFewestTurns_46 (fun ha_6 => ?_)
      refine z_iload_n dX2_fillFewestTurns_49 rfl rfl ?_
      refine z_aload_n dX2_fillFewestTurns_50 rfl rfl ?_
      obtain ⟨a_7, ra_7, hf⟩ := z_rd_some hf
      refine zgR fl_X2_9 h0 (fun _ => rfl) ra_7 dX2_fillFewestTurns_51 (fun ha_7 => ?_)
      refine z_iload_n dX2_fillFewestTurns_54 rfl rfl ?_
      obtain ⟨g_8, hf⟩ := z_ifs hf
      refine z_iald ha_7 g_8 rfl dX2_fillFewestTurns_55 ?_
      refine z_aload_n dX2_fillFewestTurns_56 rfl rfl ?_
      refine z_aload_n dX2_fillFewestTurns_57 rfl rfl ?_
      refine z_iload_n dX2_fillFewestTurns_58 rfl rfl ?_
      refine z_iload dX2_fillFewestTurns_59 rfl ?_
      obtain ⟨v_9, M_10, c_11, hf⟩ := z_call_some hf
      refine z_cVi (t_X2_turnsBy h0 h1 c_11) kw_X2_turnsBy lk_X2_65 h0 rfl (by decide) rfl (Nat.le_of_ble_eq_true rfl) ⟨Nat.le_refl 0, Nat.le_refl 0⟩ dX2_fillFewestTurns_61 ?_
      refine z_mmin mm_X2_52 mm_smin mm_ini mm_cmin (by decide) (Nat.le_of_ble_eq_true rfl) dX2_fillFewestTurns_64 ?_
      obtain ⟨g_12, hf⟩ := z_ifs hf
      obtain ⟨M_13, eM_13, hf⟩ := zl_some hf
      refine z_iast ha_6 g_12 eM_13 dX2_fillFewestTurns_67 ?_
      obtain ⟨x4_14, ex4_14, hf⟩ := zl_some hf
      refine z_iinc' (lv' := [(4, .int x4_14), (0, .ref x0), (1, .ref x1), (3, .int x3)]) dX2_fillFewestTurns_68 rfl (by decide) ex4_14 (by decide) rfl ?_
      refine z_goto (tgt := 36) dX2_fillFewestTurns_71 (by decide) ?_
      refine zA.pick [(0, .ref x0), (1, .ref x1), (3, .int x3), (4, .int x4_14)] [1, 2, 3, 0] rfl ?_
      exact ih x3 x4_14 M_13 hf
noncomputable def f_X2_fillFewestTurns_26 (x0 : Nat) (x1 : Nat) : Nat → Int32 → zM → Option (Unit × zM)
  | 0, _, _ => none
  | n + 1, x3, M =>
    (if x3 < 0 then some ((), M) else z_call (f_X2_lowestAbove x3 M) fun v_2 M_3 => (f_X2_fillFewestTurns_36 x0 x1 (f_X2_fillFewestTurns_26 x0 x1 n) zF x3 v_2 M_3))
set_option maxHeartbeats 2000000 in
set_option maxRecDepth 20000 in
theorem t_X2_fillFewestTurns_26 {l : Launch} {x0 : Nat} {x1 : Nat} {MO : zM} {v : Unit} (h0 : z_tm SH 2 x0) (h1 : z_tm SH 8 x1) : ∀ (n : Nat) (x3 : Int32) (M : zM), f_X2_fillFewestTurns_26 x0 x1 n x3 M = some (v, MO) → zA l yX2_fillFewestTurns cX2_fillFewestTurns 5 none 4 0 0 SH.length (zDv SH MO) 0 0 26 [(0, .ref x0), (1, .ref x1), (3, .int x3)] [] SH M := by
  intro n
  induction n with
  | zero =>
    intro x3 M hf
    rw [f_X2_fillFewestTurns_26] at hf
    cases hf
  | succ n ih =>
    intro x3 M hf
    rw [f_X2_fillFewestTurns_26] at hf
    refine z_iload_n dX2_fillFewestTurns_26 rfl rfl ?_
    refine z_if_lt (tgt := 80) dX2_fillFewestTurns_27 (by decide) (fun q_1 => ?_) (fun q_1 => ?_)
    · have hf := (if_pos q_1).symm.trans hf
      obtain ⟨rfl, rfl⟩ := z_end hf
      exact z_vret ⟨rfl, rfl, rfl⟩ rfl dX2_fillFewestTurns_80
    · have hf := (if_neg q_1).symm.trans hf
      refine z_iload_n dX2_fillFewestTurns_30 rfl rfl ?_
      obtain ⟨v_2, M_3, c_4, hf⟩ := z_call_some hf
      refine z_cSi (t_X2_lowestAbove  c_4) kw_X2_lowestAbove lk_X2_39 rfl (by decide) rfl (Nat.le_of_ble_eq_true rfl) ⟨Nat.le_refl 0, Nat.le_refl 0⟩ dX2_fillFewestTurns_31 ?_
      refine z_istore' (lv' := [(4, .int v_2), (0, .ref x0), (1, .ref x1), (3, .int x3)]) dX2_fillFewestTurns_34 (by decide) rfl rfl ?_
      refine zA.pick [(0, .ref x0), (1, .ref x1), (3, .int x3), (4, .int v_2)] [1, 2, 3, 0] rfl ?_
      exact t_X2_fillFewestTurns_36 h0 h1 ih zF x3 v_2 M_3 hf
noncomputable def f_X2_fillFewestTurns (x0 : Nat) (x1 : Nat) (x2 : Int32) (M : zM) : Option (Unit × zM) :=
  z_rd (M.2.1 x0 0) fun a_1 => z_call (f_J7_fill_53178 a_1 1000 M) fun v_2 M_3 => z_rd (M_3.2.1 x0 0) fun a_5 => if z_ix x2 (z_ln SH a_5) = true then zl (zu M_3.1 a_5 (x2 : Int32).toNatClampNeg 0, M_3.2) fun M_7 => z_call (f_X11_floorOf x2 M_7) fun v_8 M_9 => zl (((v_8 * 4) - 1)) fun x3_11 => (f_X2_fillFewestTurns_26 x0 x1 zF x3_11 M_9) else none
set_option maxHeartbeats 2000000 in
set_option maxRecDepth 20000 in
theorem t_X2_fillFewestTurns {l : Launch} {x0 : Nat} {x1 : Nat} {x2 : Int32} {M MO : zM} {v : Unit} (h0 : z_tm SH 2 x0) (h1 : z_tm SH 8 x1) (hf : f_X2_fillFewestTurns x0 x1 x2 M = some (v, MO)) : zMet l yX2_fillFewestTurns cX2_fillFewestTurns 5 none 4 0 0 [.ref x0, .ref x1, .int x2] SH M (zDv SH MO) := by
  refine zMet.of (by decide +kernel) (Nat.le_of_ble_eq_true rfl) (Or.inl rfl) ?_
  show zA l yX2_fillFewestTurns cX2_fillFewestTurns 5 none 4 0 0 SH.length (zDv SH MO) 0 0 0 [(0, .ref x0), (1, .ref x1), (2, .int x2)] [] SH M
  unfold f_X2_fillFewestTurns at hf
  refine z_aload_n dX2_fillFewestTurns_0 rfl rfl ?_
  obtain ⟨a_1, ra_1, hf⟩ := z_rd_some hf
  refine zgR fl_X2_9 h0 (fun _ => rfl) ra_1 dX2_fillFewestTurns_1 (fun ha_1 => ?_)
  refine z_sipush (v := 1000) dX2_fillFewestTurns_4 (by decide) ?_
  obtain ⟨v_2, M_3, c_4, hf⟩ := z_call_some hf
  refine z_cSv (t_J7_fill_53178 ha_1 c_4) kw_J7_fill_53178 lk_X2_33 rfl (by decide) rfl (Nat.le_of_ble_eq_true rfl) ⟨Nat.le_refl 0, Nat.le_refl 0⟩ dX2_fillFewestTurns_7 ?_
  refine z_aload_n dX2_fillFewestTurns_10 rfl rfl ?_
  obtain ⟨a_5, ra_5, hf⟩ := z_rd_some hf
  refine zgR fl_X2_9 h0 (fun _ => rfl) ra_5 dX2_fillFewestTurns_11 (fun ha_5 => ?_)
  refine z_iload_n dX2_fillFewestTurns_14 rfl rfl ?_
  refine z_iconst (v := 0) dX2_fillFewestTurns_15 (by decide) ?_
  obtain ⟨g_6, hf⟩ := z_ifs hf
  obtain ⟨M_7, eM_7, hf⟩ := zl_some hf
  refine z_iast ha_5 g_6 eM_7 dX2_fillFewestTurns_16 ?_
  refine z_iload_n dX2_fillFewestTurns_17 rfl rfl ?_
  obtain ⟨v_8, M_9, c_10, hf⟩ := z_call_some hf
  refine z_cSi (t_X11_floorOf  c_10) kw_X11_floorOf lk_X2_22 rfl (by decide) rfl (Nat.le_of_ble_eq_true rfl) ⟨Nat.le_refl 0, Nat.le_refl 0⟩ dX2_fillFewestTurns_18 ?_
  refine z_iconst (v := 4) dX2_fillFewestTurns_21 (by decide) ?_
  refine z_imul dX2_fillFewestTurns_22 ?_
  refine z_iconst (v := 1) dX2_fillFewestTurns_23 (by decide) ?_
  refine z_isub dX2_fillFewestTurns_24 ?_
  obtain ⟨x3_11, ex3_11, hf⟩ := zl_some hf
  refine z_istore_n' (lv' := [(3, .int x3_11), (0, .ref x0), (1, .ref x1), (2, .int x2)]) rfl dX2_fillFewestTurns_25 (by decide) ex3_11 rfl ?_
  refine zA.pick [(0, .ref x0), (1, .ref x1), (3, .int x3_11)] [1, 2, 0] rfl ?_
  exact t_X2_fillFewestTurns_26 h0 h1 zF x3_11 M_9 hf
noncomputable def f_X2_leastNext_5 (x0 : Nat) (x1 : Nat) (x2 : Int32) : Nat → Int32 → zM → Option (Int32 × zM)
  | 0, _, _ => none
  | n + 1, x3, M =>
    z_call (f_X2_highestAbove x2 M) fun v_1 M_2 => (if v_1 < x3 then some (x2, M_2) else z_call (f_X2_turnsBy x0 x1 x2 x3 M_2) fun v_5 M_6 => z_rd (M_6.2.1 x0 0) fun a_8 => if z_ix x2 (z_ln SH a_8) = true then (if v_5 = (M_6.1 a_8 (x2 : Int32).toNatClampNeg) then some (x3, M_6) else zl (x3 + 1) fun x3_11 => (f_X2_leastNext_5 x0 x1 x2 n x3_11 M_6)) else none)
set_option maxHeartbeats 2000000 in
set_option maxRecDepth 20000 in
theorem t_X2_leastNext_5 {l : Launch} {x0 : Nat} {x1 : Nat} {x2 : Int32} {MO : zM} {v : Int32} (h0 : z_tm SH 2 x0) (h1 : z_tm SH 8 x1) : ∀ (n : Nat) (x3 : Int32) (M : zM), f_X2_leastNext_5 x0 x1 x2 n x3 M = some (v, MO) → zA l yX2_leastNext cX2_leastNext 4 (some .int) 4 0 0 SH.length (zDi SH v MO) 0 0 5 [(0, .ref x0), (1, .ref x1), (2, .int x2), (3, .int x3)] [] SH M := by
  intro n
  induction n with
  | zero =>
    intro x3 M hf
    rw [f_X2_leastNext_5] at hf
    cases hf
  | succ n ih =>
    intro x3 M hf
    rw [f_X2_leastNext_5] at hf
    refine z_iload_n dX2_leastNext_5 rfl rfl ?_
    refine z_iload_n dX2_leastNext_6 rfl rfl ?_
    obtain ⟨v_1, M_2, c_3, hf⟩ := z_call_some hf
    refine z_cSi (t_X2_highestAbove  c_3) kw_X2_highestAbove lk_X2_42 rfl (by decide) rfl (Nat.le_of_ble_eq_true rfl) ⟨Nat.le_refl 0, Nat.le_refl 0⟩ dX2_leastNext_7 ?_
    refine z_icmp_gt (tgt := 37) dX2_leastNext_10 (by decide) (fun q_4 => ?_) (fun q_4 => ?_)
    · have hf := (if_pos q_4).symm.trans hf
      refine z_iload_n dX2_leastNext_37 rfl rfl ?_
      obtain ⟨rfl, rfl⟩ := z_end hf
      exact z_iret ⟨rfl, rfl, rfl⟩ (Or.inl rfl) dX2_leastNext_38
    · have hf := (if_neg q_4).symm.trans hf
      refine z_aload_n dX2_leastNext_13 rfl rfl ?_
      refine z_aload_n dX2_leastNext_14 rfl rfl ?_
      refine z_iload_n dX2_leastNext_15 rfl rfl ?_
      refine z_iload_n dX2_leastNext_16 rfl rfl ?_
      obtain ⟨v_5, M_6, c_7, hf⟩ := z_call_some hf
      refine z_cVi (t_X2_turnsBy h0 h1 c_7) kw_X2_turnsBy lk_X2_65 h0 rfl (by decide) rfl (Nat.le_of_ble_eq_true rfl) ⟨Nat.le_refl 0, Nat.le_refl 0⟩ dX2_leastNext_17 ?_
      refine z_aload_n dX2_leastNext_20 rfl rfl ?_
      obtain ⟨a_8, ra_8, hf⟩ := z_rd_some hf
      refine zgR fl_X2_9 h0 (fun _ => rfl) ra_8 dX2_leastNext_21 (fun ha_8 => ?_)
      refine z_iload_n dX2_leastNext_24 rfl rfl ?_
      obtain ⟨g_9, hf⟩ := z_ifs hf
      refine z_iald ha_8 g_9 rfl dX2_leastNext_25 ?_
      refine z_icmp_ne (tgt := 31) dX2_leastNext_26 (by decide) (fun q_10 => ?_) (fun q_10 => ?_)
      · have hf := (if_neg q_10).symm.trans hf
        obtain ⟨x3_11, ex3_11, hf⟩ := zl_some hf
        refine z_iinc' (lv' := [(3, .int x3_11), (0, .ref x0), (1, .ref x1), (2, .int x2)]) dX2_leastNext_31 rfl (by decide) ex3_11 (by decide) rfl ?_
        refine z_goto (tgt := 5) dX2_leastNext_34 (by decide) ?_
        refine zA.pick [(0, .ref x0), (1, .ref x1), (2, .int x2), (3, .int x3_11)] [1, 2, 3, 0] rfl ?_
        exact ih x3_11 M_6 hf
      · have hf := (if_pos q_10).symm.trans hf
        refine z_iload_n dX2_leastNext_29 rfl rfl ?_
        obtain ⟨rfl, rfl⟩ := z_end hf
        exact z_iret ⟨rfl, rfl, rfl⟩ (Or.inl rfl) dX2_leastNext_30
noncomputable def f_X2_leastNext (x0 : Nat) (x1 : Nat) (x2 : Int32) (M : zM) : Option (Int32 × zM) :=
  z_call (f_X2_lowestAbove x2 M) fun v_1 M_2 => (f_X2_leastNext_5 x0 x1 x2 zF v_1 M_2)
set_option maxHeartbeats 2000000 in
set_option maxRecDepth 20000 in
theorem t_X2_leastNext {l : Launch} {x0 : Nat} {x1 : Nat} {x2 : Int32} {M MO : zM} {v : Int32} (h0 : z_tm SH 2 x0) (h1 : z_tm SH 8 x1) (hf : f_X2_leastNext x0 x1 x2 M = some (v, MO)) : zMet l yX2_leastNext cX2_leastNext 4 (some .int) 4 0 0 [.ref x0, .ref x1, .int x2] SH M (zDi SH v MO) := by
  refine zMet.of (by decide +kernel) (Nat.le_of_ble_eq_true rfl) (Or.inr (Or.inl rfl)) ?_
  show zA l yX2_leastNext cX2_leastNext 4 (some .int) 4 0 0 SH.length (zDi SH v MO) 0 0 0 [(0, .ref x0), (1, .ref x1), (2, .int x2)] [] SH M
  unfold f_X2_leastNext at hf
  refine z_iload_n dX2_leastNext_0 rfl rfl ?_
  obtain ⟨v_1, M_2, c_3, hf⟩ := z_call_some hf
  refine z_cSi (t_X2_lowestAbove  c_3) kw_X2_lowestAbove lk_X2_39 rfl (by decide) rfl (Nat.le_of_ble_eq_true rfl) ⟨Nat.le_refl 0, Nat.le_refl 0⟩ dX2_leastNext_1 ?_
  refine z_istore_n' (lv' := [(3, .int v_1), (0, .ref x0), (1, .ref x1), (2, .int x2)]) rfl dX2_leastNext_4 (by decide) rfl rfl ?_
  refine zA.pick [(0, .ref x0), (1, .ref x1), (2, .int x2), (3, .int v_1)] [1, 2, 3, 0] rfl ?_
  exact t_X2_leastNext_5 h0 h1 zF v_1 M_2 hf
noncomputable def f_X2_turned_58 (x0 : Nat) (x1 : Nat) (x4 : Int32) : Nat → Int32 → Int32 → zM → Option (Int32 × zM)
  | 0, _, _, _ => none
  | n + 1, x5, x6, M =>
    (if x4 < x6 then z_call (f_X11_columnOf x5 M) fun v_2 M_3 => some (v_2, M_3) else z_call (f_X2_leastNext x0 x1 x5 M) fun v_5 M_6 => zl (x6 + 1) fun x6_8 => (f_X2_turned_58 x0 x1 x4 n v_5 x6_8 M_6))
set_option maxHeartbeats 2000000 in
set_option maxRecDepth 20000 in
theorem t_X2_turned_58 {l : Launch} {x0 : Nat} {x1 : Nat} {x4 : Int32} {MO : zM} {v : Int32} (h0 : z_tm SH 2 x0) (h1 : z_tm SH 8 x1) : ∀ (n : Nat) (x5 : Int32) (x6 : Int32) (M : zM), f_X2_turned_58 x0 x1 x4 n x5 x6 M = some (v, MO) → zA l yX2_turned cX2_turned 7 (some .int) 5 0 0 SH.length (zDi SH v MO) 0 0 58 [(0, .ref x0), (1, .ref x1), (4, .int x4), (5, .int x5), (6, .int x6)] [] SH M := by
  intro n
  induction n with
  | zero =>
    intro x5 x6 M hf
    rw [f_X2_turned_58] at hf
    cases hf
  | succ n ih =>
    intro x5 x6 M hf
    rw [f_X2_turned_58] at hf
    refine z_iload dX2_turned_58 rfl ?_
    refine z_iload dX2_turned_60 rfl ?_
    refine z_icmp_gt (tgt := 80) dX2_turned_62 (by decide) (fun q_1 => ?_) (fun q_1 => ?_)
    · have hf := (if_pos q_1).symm.trans hf
      refine z_iload dX2_turned_80 rfl ?_
      obtain ⟨v_2, M_3, c_4, hf⟩ := z_call_some hf
      refine z_cSi (t_X11_columnOf  c_4) kw_X11_columnOf lk_X2_30 rfl (by decide) rfl (Nat.le_of_ble_eq_true rfl) ⟨Nat.le_refl 0, Nat.le_refl 0⟩ dX2_turned_82 ?_
      obtain ⟨rfl, rfl⟩ := z_end hf
      exact z_iret ⟨rfl, rfl, rfl⟩ (Or.inl rfl) dX2_turned_85
    · have hf := (if_neg q_1).symm.trans hf
      refine z_aload_n dX2_turned_65 rfl rfl ?_
      refine z_aload_n dX2_turned_66 rfl rfl ?_
      refine z_iload dX2_turned_67 rfl ?_
      obtain ⟨v_5, M_6, c_7, hf⟩ := z_call_some hf
      refine z_cVi (t_X2_leastNext h0 h1 c_7) kw_X2_leastNext lk_X2_26 h0 rfl (by decide) rfl (Nat.le_of_ble_eq_true rfl) ⟨Nat.le_refl 0, Nat.le_refl 0⟩ dX2_turned_69 ?_
      refine z_istore' (lv' := [(5, .int v_5), (0, .ref x0), (1, .ref x1), (4, .int x4), (6, .int x6)]) dX2_turned_72 (by decide) rfl rfl ?_
      obtain ⟨x6_8, ex6_8, hf⟩ := zl_some hf
      refine z_iinc' (lv' := [(6, .int x6_8), (5, .int v_5), (0, .ref x0), (1, .ref x1), (4, .int x4)]) dX2_turned_74 rfl (by decide) ex6_8 (by decide) rfl ?_
      refine z_goto (tgt := 58) dX2_turned_77 (by decide) ?_
      refine zA.pick [(0, .ref x0), (1, .ref x1), (4, .int x4), (5, .int v_5), (6, .int x6_8)] [2, 3, 4, 1, 0] rfl ?_
      exact ih v_5 x6_8 M_6 hf
noncomputable def f_X2_turned (x0 : Nat) (x1 : Nat) (x2 : Int32) (x3 : Int32) (x4 : Int32) (M : zM) : Option (Int32 × zM) :=
  z_call (f_X2_fillFewestTurns x0 x1 x3 M) fun v_1 M_2 => z_rd (M_2.2.1 x0 0) fun a_4 => if z_ix x2 (z_ln SH a_4) = true then (if (M_2.1 a_4 (x2 : Int32).toNatClampNeg) < 1000 then (if x4 = 100 then z_rd (M_2.2.1 x0 0) fun a_15 => if z_ix x2 (z_ln SH a_15) = true then some ((M_2.1 a_15 (x2 : Int32).toNatClampNeg), M_2) else none else z_call (f_X11_floorOf x3 M_2) fun v_8 M_9 => z_call (f_X11_floorOf x2 M_9) fun v_11 M_12 => (if x4 < (v_8 - v_11) then (f_X2_turned_58 x0 x1 x4 zF x2 0 M_12) else some ((-4), M_12))) else some ((-2), M_2)) else none
set_option maxHeartbeats 2000000 in
set_option maxRecDepth 20000 in
theorem t_X2_turned {l : Launch} {x0 : Nat} {x1 : Nat} {x2 : Int32} {x3 : Int32} {x4 : Int32} {M MO : zM} {v : Int32} (h0 : z_tm SH 2 x0) (h1 : z_tm SH 8 x1) (hf : f_X2_turned x0 x1 x2 x3 x4 M = some (v, MO)) : zMet l yX2_turned cX2_turned 7 (some .int) 5 0 0 [.ref x0, .ref x1, .int x2, .int x3, .int x4] SH M (zDi SH v MO) := by
  refine zMet.of (by decide +kernel) (Nat.le_of_ble_eq_true rfl) (Or.inr (Or.inl rfl)) ?_
  show zA l yX2_turned cX2_turned 7 (some .int) 5 0 0 SH.length (zDi SH v MO) 0 0 0 [(0, .ref x0), (1, .ref x1), (2, .int x2), (3, .int x3), (4, .int x4)] [] SH M
  unfold f_X2_turned at hf
  refine z_aload_n dX2_turned_0 rfl rfl ?_
  refine z_aload_n dX2_turned_1 rfl rfl ?_
  refine z_iload_n dX2_turned_2 rfl rfl ?_
  obtain ⟨v_1, M_2, c_3, hf⟩ := z_call_some hf
  refine z_cVv (t_X2_fillFewestTurns h0 h1 c_3) kw_X2_fillFewestTurns lk_X2_18 h0 rfl (by decide) rfl (Nat.le_of_ble_eq_true rfl) ⟨Nat.le_refl 0, Nat.le_refl 0⟩ dX2_turned_3 ?_
  refine z_aload_n dX2_turned_6 rfl rfl ?_
  obtain ⟨a_4, ra_4, hf⟩ := z_rd_some hf
  refine zgR fl_X2_9 h0 (fun _ => rfl) ra_4 dX2_turned_7 (fun ha_4 => ?_)
  refine z_iload_n dX2_turned_10 rfl rfl ?_
  obtain ⟨g_5, hf⟩ := z_ifs hf
  refine z_iald ha_4 g_5 rfl dX2_turned_11 ?_
  refine z_sipush (v := 1000) dX2_turned_12 (by decide) ?_
  refine z_icmp_lt (tgt := 21) dX2_turned_15 (by decide) (fun q_6 => ?_) (fun q_6 => ?_)
  · have hf := (if_pos q_6).symm.trans hf
    refine z_iload dX2_turned_21 rfl ?_
    refine z_bipush (v := 100) dX2_turned_23 (by decide) ?_
    refine z_icmp_ne (tgt := 35) dX2_turned_25 (by decide) (fun q_7 => ?_) (fun q_7 => ?_)
    · have hf := (if_neg q_7).symm.trans hf
      refine z_iload dX2_turned_35 rfl ?_
      refine z_iload_n dX2_turned_37 rfl rfl ?_
      obtain ⟨v_8, M_9, c_10, hf⟩ := z_call_some hf
      refine z_cSi (t_X11_floorOf  c_10) kw_X11_floorOf lk_X2_22 rfl (by decide) rfl (Nat.le_of_ble_eq_true rfl) ⟨Nat.le_refl 0, Nat.le_refl 0⟩ dX2_turned_38 ?_
      refine z_iload_n dX2_turned_41 rfl rfl ?_
      obtain ⟨v_11, M_12, c_13, hf⟩ := z_call_some hf
      refine z_cSi (t_X11_floorOf  c_13) kw_X11_floorOf lk_X2_22 rfl (by decide) rfl (Nat.le_of_ble_eq_true rfl) ⟨Nat.le_refl 0, Nat.le_refl 0⟩ dX2_turned_42 ?_
      refine z_isub dX2_turned_45 ?_
      refine z_icmp_lt (tgt := 52) dX2_turned_46 (by decide) (fun q_14 => ?_) (fun q_14 => ?_)
      · have hf := (if_pos q_14).symm.trans hf
        refine z_iload_n dX2_turned_52 rfl rfl ?_
        refine z_istore' (lv' := [(5, .int x2), (0, .ref x0), (1, .ref x1), (2, .int x2), (3, .int x3), (4, .int x4)]) dX2_turned_53 (by decide) rfl rfl ?_
        refine z_iconst (v := 0) dX2_turned_55 (by decide) ?_
        refine z_istore' (lv' := [(6, .int 0), (5, .int x2), (0, .ref x0), (1, .ref x1), (2, .int x2), (3, .int x3), (4, .int x4)]) dX2_turned_56 (by decide) rfl rfl ?_
        refine zA.pick [(0, .ref x0), (1, .ref x1), (4, .int x4), (5, .int x2), (6, .int 0)] [2, 3, 6, 1, 0] rfl ?_
        exact t_X2_turned_58 h0 h1 zF x2 0 M_12 hf
      · have hf := (if_neg q_14).symm.trans hf
        refine z_bipush (v := (-4)) dX2_turned_49 (by decide) ?_
        obtain ⟨rfl, rfl⟩ := z_end hf
        exact z_iret ⟨rfl, rfl, rfl⟩ (Or.inl rfl) dX2_turned_51
    · have hf := (if_pos q_7).symm.trans hf
      refine z_aload_n dX2_turned_28 rfl rfl ?_
      obtain ⟨a_15, ra_15, hf⟩ := z_rd_some hf
      refine zgR fl_X2_9 h0 (fun _ => rfl) ra_15 dX2_turned_29 (fun ha_15 => ?_)
      refine z_iload_n dX2_turned_32 rfl rfl ?_
      obtain ⟨g_16, hf⟩ := z_ifs hf
      refine z_iald ha_15 g_16 rfl dX2_turned_33 ?_
      obtain ⟨rfl, rfl⟩ := z_end hf
      exact z_iret ⟨rfl, rfl, rfl⟩ (Or.inl rfl) dX2_turned_34
  · have hf := (if_neg q_6).symm.trans hf
    refine z_bipush (v := (-2)) dX2_turned_18 (by decide) ?_
    obtain ⟨rfl, rfl⟩ := z_end hf
    exact z_iret ⟨rfl, rfl, rfl⟩ (Or.inl rfl) dX2_turned_20
noncomputable def f_X2_numberOfRows_34 (x0 : Nat) (x1 : Int32) (k24 : Int32 → zM → Option (Int32 × zM)) : Nat → Int32 → Int32 → zM → Option (Int32 × zM)
  | 0, _, _, _ => none
  | n + 1, x3, x4, M =>
    z_call (f_X2_highestAbove x3 M) fun v_1 M_2 => (if v_1 < x4 then zl (x3 + (-1)) fun x3_5 => (k24 x3_5 M_2) else z_rd (M_2.2.1 x0 0) fun a_6 => if z_ix x3 (z_ln SH a_6) = true then z_rd (M_2.2.1 x0 0) fun a_8 => if z_ix x4 (z_ln SH a_8) = true then if z_ix x3 (z_ln SH a_6) = true then zl (zu M_2.1 a_6 (x3 : Int32).toNatClampNeg ((M_2.1 a_6 (x3 : Int32).toNatClampNeg) + (M_2.1 a_8 (x4 : Int32).toNatClampNeg)), M_2.2) fun M_11 => zl (x4 + 1) fun x4_12 => (f_X2_numberOfRows_34 x0 x1 k24 n x3 x4_12 M_11) else none else none else none)
set_option maxHeartbeats 2000000 in
set_option maxRecDepth 20000 in
theorem t_X2_numberOfRows_34 {l : Launch} {x0 : Nat} {x1 : Int32} {k24 : Int32 → zM → Option (Int32 × zM)} {MO : zM} {v : Int32} (h0 : z_tm SH 2 x0) (hk24 : ∀ (x3 : Int32) (M : zM), k24 x3 M = some (v, MO) → zA l yX2_numberOfRows cX2_numberOfRows 5 (some .int) 3 0 0 SH.length (zDi SH v MO) 0 0 24 [(0, .ref x0), (1, .int x1), (3, .int x3)] [] SH M) : ∀ (n : Nat) (x3 : Int32) (x4 : Int32) (M : zM), f_X2_numberOfRows_34 x0 x1 k24 n x3 x4 M = some (v, MO) → zA l yX2_numberOfRows cX2_numberOfRows 5 (some .int) 3 0 0 SH.length (zDi SH v MO) 0 0 34 [(0, .ref x0), (1, .int x1), (3, .int x3), (4, .int x4)] [] SH M := by
  intro n
  induction n with
  | zero =>
    intro x3 x4 M hf
    rw [f_X2_numberOfRows_34] at hf
    cases hf
  | succ n ih =>
    intro x3 x4 M hf
    rw [f_X2_numberOfRows_34] at hf
    refine z_iload dX2_numberOfRows_34 rfl ?_
    refine z_iload_n dX2_numberOfRows_36 rfl rfl ?_
    obtain ⟨v_1, M_2, c_3, hf⟩ := z_call_some hf
    refine z_cSi (t_X2_highestAbove  c_3) kw_X2_highestAbove lk_X2_42 rfl (by decide) rfl (Nat.le_of_ble_eq_true rfl) ⟨Nat.le_refl 0, Nat.le_refl 0⟩ dX2_numberOfRows_37 ?_
    refine z_icmp_gt (tgt := 65) dX2_numberOfRows_40 (by decide) (fun q_4 => ?_) (fun q_4 => ?_)
    · have hf := (if_pos q_4).symm.trans hf
      obtain ⟨x3_5, ex3_5, hf⟩ := zl_some hf
      refine z_iinc' (lv' := [(3, .int x3_5), (0, .ref x0), (1, .int x1), (4, .int x4)]) dX2_numberOfRows_65 rfl (by decide) ex3_5 (by decide) rfl ?_
      refine z_goto (tgt := 24) dX2_numberOfRows_68 (by decide) ?_
      refine zA.pick [(0, .ref x0), (1, .int x1), (3, .int x3_5)] [1, 2, 0] rfl ?_
      exact hk24 x3_5 M_2 hf
    · have hf := (if_neg q_4).symm.trans hf
      refine z_aload_n dX2_numberOfRows_43 rfl rfl ?_
      obtain ⟨a_6, ra_6, hf⟩ := z_rd_some hf
      refine zgR fl_X2_9 h0 (fun _ => rfl) ra_6 dX2_numberOfRows_44 (fun ha_6 => ?_)
      refine z_iload_n dX2_numberOfRows_47 rfl rfl ?_
      refine z_dup2 dX2_numberOfRows_48 rfl rfl ?_
      obtain ⟨g_7, hf⟩ := z_ifs hf
      refine z_iald ha_6 g_7 rfl dX2_numberOfRows_49 ?_
      refine z_aload_n dX2_numberOfRows_50 rfl rfl ?_
      obtain ⟨a_8, ra_8, hf⟩ := z_rd_some hf
      refine zgR fl_X2_9 h0 (fun _ => rfl) ra_8 dX2_numberOfRows_51 (fun ha_8 => ?_)
      refine z_iload dX2_numberOfRows_54 rfl ?_
      obtain ⟨g_9, hf⟩ := z_ifs hf
      refine z_iald ha_8 g_9 rfl dX2_numberOfRows_56 ?_
      refine z_iadd dX2_numberOfRows_57 ?_
      obtain ⟨g_10, hf⟩ := z_ifs hf
      obtain ⟨M_11, eM_11, hf⟩ := zl_some hf
      refine z_iast ha_6 g_10 eM_11 dX2_numberOfRows_58 ?_
      obtain ⟨x4_12, ex4_12, hf⟩ := zl_some hf
      refine z_iinc' (lv' := [(4, .int x4_12), (0, .ref x0), (1, .int x1), (3, .int x3)]) dX2_numberOfRows_59 rfl (by decide) ex4_12 (by decide) rfl ?_
      refine z_goto (tgt := 34) dX2_numberOfRows_62 (by decide) ?_
      refine zA.pick [(0, .ref x0), (1, .int x1), (3, .int x3), (4, .int x4_12)] [1, 2, 3, 0] rfl ?_
      exact ih x3 x4_12 M_11 hf
noncomputable def f_X2_numberOfRows_24 (x0 : Nat) (x1 : Int32) : Nat → Int32 → zM → Option (Int32 × zM)
  | 0, _, _ => none
  | n + 1, x3, M =>
    (if x3 < 0 then z_rd (M.2.1 x0 0) fun a_2 => if z_ix x1 (z_ln SH a_2) = true then some ((M.1 a_2 (x1 : Int32).toNatClampNeg), M) else none else z_call (f_X2_lowestAbove x3 M) fun v_4 M_5 => (f_X2_numberOfRows_34 x0 x1 (f_X2_numberOfRows_24 x0 x1 n) zF x3 v_4 M_5))
set_option maxHeartbeats 2000000 in
set_option maxRecDepth 20000 in
theorem t_X2_numberOfRows_24 {l : Launch} {x0 : Nat} {x1 : Int32} {MO : zM} {v : Int32} (h0 : z_tm SH 2 x0) : ∀ (n : Nat) (x3 : Int32) (M : zM), f_X2_numberOfRows_24 x0 x1 n x3 M = some (v, MO) → zA l yX2_numberOfRows cX2_numberOfRows 5 (some .int) 3 0 0 SH.length (zDi SH v MO) 0 0 24 [(0, .ref x0), (1, .int x1), (3, .int x3)] [] SH M := by
  intro n
  induction n with
  | zero =>
    intro x3 M hf
    rw [f_X2_numberOfRows_24] at hf
    cases hf
  | succ n ih =>
    intro x3 M hf
    rw [f_X2_numberOfRows_24] at hf
    refine z_iload_n dX2_numberOfRows_24 rfl rfl ?_
    refine z_if_lt (tgt := 71) dX2_numberOfRows_25 (by decide) (fun q_1 => ?_) (fun q_1 => ?_)
    · have hf := (if_pos q_1).symm.trans hf
      refine z_aload_n dX2_numberOfRows_71 rfl rfl ?_
      obtain ⟨a_2, ra_2, hf⟩ := z_rd_some hf
      refine zgR fl_X2_9 h0 (fun _ => rfl) ra_2 dX2_numberOfRows_72 (fun ha_2 => ?_)
      refine z_iload_n dX2_numberOfRows_75 rfl rfl ?_
      obtain ⟨g_3, hf⟩ := z_ifs hf
      refine z_iald ha_2 g_3 rfl dX2_numberOfRows_76 ?_
      obtain ⟨rfl, rfl⟩ := z_end hf
      exact z_iret ⟨rfl, rfl, rfl⟩ (Or.inl rfl) dX2_numberOfRows_77
    · have hf := (if_neg q_1).symm.trans hf
      refine z_iload_n dX2_numberOfRows_28 rfl rfl ?_
      obtain ⟨v_4, M_5, c_6, hf⟩ := z_call_some hf
      refine z_cSi (t_X2_lowestAbove  c_6) kw_X2_lowestAbove lk_X2_39 rfl (by decide) rfl (Nat.le_of_ble_eq_true rfl) ⟨Nat.le_refl 0, Nat.le_refl 0⟩ dX2_numberOfRows_29 ?_
      refine z_istore' (lv' := [(4, .int v_4), (0, .ref x0), (1, .int x1), (3, .int x3)]) dX2_numberOfRows_32 (by decide) rfl rfl ?_
      refine zA.pick [(0, .ref x0), (1, .int x1), (3, .int x3), (4, .int v_4)] [1, 2, 3, 0] rfl ?_
      exact t_X2_numberOfRows_34 h0 ih zF x3 v_4 M_5 hf
noncomputable def f_X2_numberOfRows (x0 : Nat) (x1 : Int32) (x2 : Int32) (M : zM) : Option (Int32 × zM) :=
  z_rd (M.2.1 x0 0) fun a_1 => z_call (f_J7_fill_53178 a_1 0 M) fun v_2 M_3 => z_rd (M_3.2.1 x0 0) fun a_5 => if z_ix x2 (z_ln SH a_5) = true then zl (zu M_3.1 a_5 (x2 : Int32).toNatClampNeg 1, M_3.2) fun M_7 => z_call (f_X11_floorOf x2 M_7) fun v_8 M_9 => zl (((v_8 * 4) - 1)) fun x3_11 => (f_X2_numberOfRows_24 x0 x1 zF x3_11 M_9) else none
set_option maxHeartbeats 2000000 in
set_option maxRecDepth 20000 in
theorem t_X2_numberOfRows {l : Launch} {x0 : Nat} {x1 : Int32} {x2 : Int32} {M MO : zM} {v : Int32} (h0 : z_tm SH 2 x0) (hf : f_X2_numberOfRows x0 x1 x2 M = some (v, MO)) : zMet l yX2_numberOfRows cX2_numberOfRows 5 (some .int) 3 0 0 [.ref x0, .int x1, .int x2] SH M (zDi SH v MO) := by
  refine zMet.of (by decide +kernel) (Nat.le_of_ble_eq_true rfl) (Or.inr (Or.inl rfl)) ?_
  show zA l yX2_numberOfRows cX2_numberOfRows 5 (some .int) 3 0 0 SH.length (zDi SH v MO) 0 0 0 [(0, .ref x0), (1, .int x1), (2, .int x2)] [] SH M
  unfold f_X2_numberOfRows at hf
  refine z_aload_n dX2_numberOfRows_0 rfl rfl ?_
  obtain ⟨a_1, ra_1, hf⟩ := z_rd_some hf
  refine zgR fl_X2_9 h0 (fun _ => rfl) ra_1 dX2_numberOfRows_1 (fun ha_1 => ?_)
  refine z_iconst (v := 0) dX2_numberOfRows_4 (by decide) ?_
  obtain ⟨v_2, M_3, c_4, hf⟩ := z_call_some hf
  refine z_cSv (t_J7_fill_53178 ha_1 c_4) kw_J7_fill_53178 lk_X2_33 rfl (by decide) rfl (Nat.le_of_ble_eq_true rfl) ⟨Nat.le_refl 0, Nat.le_refl 0⟩ dX2_numberOfRows_5 ?_
  refine z_aload_n dX2_numberOfRows_8 rfl rfl ?_
  obtain ⟨a_5, ra_5, hf⟩ := z_rd_some hf
  refine zgR fl_X2_9 h0 (fun _ => rfl) ra_5 dX2_numberOfRows_9 (fun ha_5 => ?_)
  refine z_iload_n dX2_numberOfRows_12 rfl rfl ?_
  refine z_iconst (v := 1) dX2_numberOfRows_13 (by decide) ?_
  obtain ⟨g_6, hf⟩ := z_ifs hf
  obtain ⟨M_7, eM_7, hf⟩ := zl_some hf
  refine z_iast ha_5 g_6 eM_7 dX2_numberOfRows_14 ?_
  refine z_iload_n dX2_numberOfRows_15 rfl rfl ?_
  obtain ⟨v_8, M_9, c_10, hf⟩ := z_call_some hf
  refine z_cSi (t_X11_floorOf  c_10) kw_X11_floorOf lk_X2_22 rfl (by decide) rfl (Nat.le_of_ble_eq_true rfl) ⟨Nat.le_refl 0, Nat.le_refl 0⟩ dX2_numberOfRows_16 ?_
  refine z_iconst (v := 4) dX2_numberOfRows_19 (by decide) ?_
  refine z_imul dX2_numberOfRows_20 ?_
  refine z_iconst (v := 1) dX2_numberOfRows_21 (by decide) ?_
  refine z_isub dX2_numberOfRows_22 ?_
  obtain ⟨x3_11, ex3_11, hf⟩ := zl_some hf
  refine z_istore_n' (lv' := [(3, .int x3_11), (0, .ref x0), (1, .int x1), (2, .int x2)]) rfl dX2_numberOfRows_23 (by decide) ex3_11 rfl ?_
  refine zA.pick [(0, .ref x0), (1, .int x1), (3, .int x3_11)] [1, 2, 0] rfl ?_
  exact t_X2_numberOfRows_24 h0 zF x3_11 M_9 hf
noncomputable def f_X2_fewestShut_179 (x0 : Nat) (x1 : Nat) (x2 : Int32) (k21 : Int32 → Int32 → zM → Option (Int32 × zM)) (x3 : Int32) (x4 : Int32) (M : zM) : Option (Int32 × zM) :=
  zl (x4 + 1) fun x4_1 => (k21 x3 x4_1 M)
set_option maxHeartbeats 2000000 in
set_option maxRecDepth 20000 in
theorem t_X2_fewestShut_179 {l : Launch} {x0 : Nat} {x1 : Nat} {x2 : Int32} {k21 : Int32 → Int32 → zM → Option (Int32 × zM)} {x3 : Int32} {x4 : Int32} {M MO : zM} {v : Int32} (h0 : z_tm SH 2 x0) (h1 : z_tm SH 8 x1) (hk21 : ∀ (x3 : Int32) (x4 : Int32) (M : zM), k21 x3 x4 M = some (v, MO) → zA l yX2_fewestShut cX2_fewestShut 11 (some .int) 3 0 0 SH.length (zDi SH v MO) 0 0 21 [(0, .ref x0), (1, .ref x1), (2, .int x2), (3, .int x3), (4, .int x4)] [] SH M) (hf : f_X2_fewestShut_179 x0 x1 x2 k21 x3 x4 M = some (v, MO)) : zA l yX2_fewestShut cX2_fewestShut 11 (some .int) 3 0 0 SH.length (zDi SH v MO) 0 0 179 [(0, .ref x0), (1, .ref x1), (2, .int x2), (3, .int x3), (4, .int x4)] [] SH M := by
  unfold f_X2_fewestShut_179 at hf
  obtain ⟨x4_1, ex4_1, hf⟩ := zl_some hf
  refine z_iinc' (lv' := [(4, .int x4_1), (0, .ref x0), (1, .ref x1), (2, .int x2), (3, .int x3)]) dX2_fewestShut_179 rfl (by decide) ex4_1 (by decide) rfl ?_
  refine z_goto (tgt := 21) dX2_fewestShut_182 (by decide) ?_
  refine zA.pick [(0, .ref x0), (1, .ref x1), (2, .int x2), (3, .int x3), (4, .int x4_1)] [1, 2, 3, 4, 0] rfl ?_
  exact hk21 x3 x4_1 M hf
noncomputable def f_X2_fewestShut_129 (x0 : Nat) (x1 : Nat) (x2 : Int32) (k21 : Int32 → Int32 → zM → Option (Int32 × zM)) (x3 : Int32) (x4 : Int32) (x7 : Int32) (s0 : Int32) (M : zM) : Option (Int32 × zM) :=
  z_call (f_X8_above x1 x4 M) fun v_1 M_2 => z_call (f_X11_isRoom v_1 M_2) fun v_4 M_5 => (if v_4 = 0 then zl ((x3 + x7)) fun x3_8 => (f_X2_fewestShut_179 x0 x1 x2 k21 x3_8 x4 M_5) else z_rd (M_5.2.1 x0 0) fun a_9 => if z_ix v_1 (z_ln SH a_9) = true then if z_ix v_1 (z_ln SH a_9) = true then zl (zu M_5.1 a_9 (v_1 : Int32).toNatClampNeg ((M_5.1 a_9 (v_1 : Int32).toNatClampNeg) + x7), M_5.2) fun M_12 => z_rd (M_12.2.1 x0 1) fun a_13 => if z_ix v_1 (z_ln SH a_13) = true then if z_ix v_1 (z_ln SH a_13) = true then zl (zu M_12.1 a_13 (v_1 : Int32).toNatClampNeg ((M_12.1 a_13 (v_1 : Int32).toNatClampNeg) + s0), M_12.2) fun M_16 => (f_X2_fewestShut_179 x0 x1 x2 k21 x3 x4 M_16) else none else none else none else none)
set_option maxHeartbeats 2000000 in
set_option maxRecDepth 20000 in
theorem t_X2_fewestShut_129 {l : Launch} {x0 : Nat} {x1 : Nat} {x2 : Int32} {k21 : Int32 → Int32 → zM → Option (Int32 × zM)} {x3 : Int32} {x4 : Int32} {x7 : Int32} {s0 : Int32} {M MO : zM} {v : Int32} (h0 : z_tm SH 2 x0) (h1 : z_tm SH 8 x1) (hk21 : ∀ (x3 : Int32) (x4 : Int32) (M : zM), k21 x3 x4 M = some (v, MO) → zA l yX2_fewestShut cX2_fewestShut 11 (some .int) 3 0 0 SH.length (zDi SH v MO) 0 0 21 [(0, .ref x0), (1, .ref x1), (2, .int x2), (3, .int x3), (4, .int x4)] [] SH M) (hf : f_X2_fewestShut_129 x0 x1 x2 k21 x3 x4 x7 s0 M = some (v, MO)) : zA l yX2_fewestShut cX2_fewestShut 11 (some .int) 3 0 0 SH.length (zDi SH v MO) 0 0 129 [(0, .ref x0), (1, .ref x1), (2, .int x2), (3, .int x3), (4, .int x4), (7, .int x7)] [.int s0] SH M := by
  unfold f_X2_fewestShut_129 at hf
  refine z_istore' (lv' := [(9, .int s0), (0, .ref x0), (1, .ref x1), (2, .int x2), (3, .int x3), (4, .int x4), (7, .int x7)]) dX2_fewestShut_129 (by decide) rfl rfl ?_
  refine z_aload_n dX2_fewestShut_131 rfl rfl ?_
  refine z_iload dX2_fewestShut_132 rfl ?_
  obtain ⟨v_1, M_2, c_3, hf⟩ := z_call_some hf
  refine z_cVi (t_X8_above h1 c_3) kw_X8_above lk_X2_58 h1 rfl (by decide) rfl (Nat.le_of_ble_eq_true rfl) ⟨Nat.le_refl 0, Nat.le_refl 0⟩ dX2_fewestShut_134 ?_
  refine z_istore' (lv' := [(10, .int v_1), (9, .int s0), (0, .ref x0), (1, .ref x1), (2, .int x2), (3, .int x3), (4, .int x4), (7, .int x7)]) dX2_fewestShut_137 (by decide) rfl rfl ?_
  refine z_iload dX2_fewestShut_139 rfl ?_
  obtain ⟨v_4, M_5, c_6, hf⟩ := z_call_some hf
  refine z_cSi (t_X11_isRoom  c_6) kw_X11_isRoom lk_X2_61 rfl (by decide) rfl (Nat.le_of_ble_eq_true rfl) ⟨Nat.le_refl 0, Nat.le_refl 0⟩ dX2_fewestShut_141 ?_
  refine z_if_eq (tgt := 174) dX2_fewestShut_144 (by decide) (fun q_7 => ?_) (fun q_7 => ?_)
  · have hf := (if_pos q_7).symm.trans hf
    refine z_iload_n dX2_fewestShut_174 rfl rfl ?_
    refine z_iload dX2_fewestShut_175 rfl ?_
    refine z_iadd dX2_fewestShut_177 ?_
    obtain ⟨x3_8, ex3_8, hf⟩ := zl_some hf
    refine z_istore_n' (lv' := [(3, .int x3_8), (10, .int v_1), (9, .int s0), (0, .ref x0), (1, .ref x1), (2, .int x2), (4, .int x4), (7, .int x7)]) rfl dX2_fewestShut_178 (by decide) ex3_8 rfl ?_
    refine zA.pick [(0, .ref x0), (1, .ref x1), (2, .int x2), (3, .int x3_8), (4, .int x4)] [3, 4, 5, 0, 6] rfl ?_
    exact t_X2_fewestShut_179 h0 h1 hk21 hf
  · have hf := (if_neg q_7).symm.trans hf
    refine z_aload_n dX2_fewestShut_147 rfl rfl ?_
    obtain ⟨a_9, ra_9, hf⟩ := z_rd_some hf
    refine zgR fl_X2_9 h0 (fun _ => rfl) ra_9 dX2_fewestShut_148 (fun ha_9 => ?_)
    refine z_iload dX2_fewestShut_151 rfl ?_
    refine z_dup2 dX2_fewestShut_153 rfl rfl ?_
    obtain ⟨g_10, hf⟩ := z_ifs hf
    refine z_iald ha_9 g_10 rfl dX2_fewestShut_154 ?_
    refine z_iload dX2_fewestShut_155 rfl ?_
    refine z_iadd dX2_fewestShut_157 ?_
    obtain ⟨g_11, hf⟩ := z_ifs hf
    obtain ⟨M_12, eM_12, hf⟩ := zl_some hf
    refine z_iast ha_9 g_11 eM_12 dX2_fewestShut_158 ?_
    refine z_aload_n dX2_fewestShut_159 rfl rfl ?_
    obtain ⟨a_13, ra_13, hf⟩ := z_rd_some hf
    refine zgR fl_X2_15 h0 (fun _ => rfl) ra_13 dX2_fewestShut_160 (fun ha_13 => ?_)
    refine z_iload dX2_fewestShut_163 rfl ?_
    refine z_dup2 dX2_fewestShut_165 rfl rfl ?_
    obtain ⟨g_14, hf⟩ := z_ifs hf
    refine z_iald ha_13 g_14 rfl dX2_fewestShut_166 ?_
    refine z_iload dX2_fewestShut_167 rfl ?_
    refine z_iadd dX2_fewestShut_169 ?_
    obtain ⟨g_15, hf⟩ := z_ifs hf
    obtain ⟨M_16, eM_16, hf⟩ := zl_some hf
    refine z_iast ha_13 g_15 eM_16 dX2_fewestShut_170 ?_
    refine z_goto (tgt := 179) dX2_fewestShut_171 (by decide) ?_
    refine zA.pick [(0, .ref x0), (1, .ref x1), (2, .int x2), (3, .int x3), (4, .int x4)] [2, 3, 4, 5, 6] rfl ?_
    exact t_X2_fewestShut_179 h0 h1 hk21 hf
noncomputable def f_X2_fewestShut_102 (x0 : Nat) (x1 : Nat) (x2 : Int32) (k21 : Int32 → Int32 → zM → Option (Int32 × zM)) (x3 : Int32) (x4 : Int32) (x6 : Int32) (x7 : Int32) (s0 : Int32) (M : zM) : Option (Int32 × zM) :=
  (if s0 = 0 then z_rd (M.2.1 x0 1) fun a_2 => if z_ix x4 (z_ln SH a_2) = true then (f_X2_fewestShut_129 x0 x1 x2 k21 x3 x4 x7 (M.1 a_2 (x4 : Int32).toNatClampNeg) M) else none else z_rd (M.2.1 x0 1) fun a_4 => if z_ix x4 (z_ln SH a_4) = true then (f_X2_fewestShut_129 x0 x1 x2 k21 x3 x4 x7 ((M.1 a_4 (x4 : Int32).toNatClampNeg) + x6) M) else none)
set_option maxHeartbeats 2000000 in
set_option maxRecDepth 20000 in
theorem t_X2_fewestShut_102 {l : Launch} {x0 : Nat} {x1 : Nat} {x2 : Int32} {k21 : Int32 → Int32 → zM → Option (Int32 × zM)} {x3 : Int32} {x4 : Int32} {x6 : Int32} {x7 : Int32} {s0 : Int32} {M MO : zM} {v : Int32} (h0 : z_tm SH 2 x0) (h1 : z_tm SH 8 x1) (hk21 : ∀ (x3 : Int32) (x4 : Int32) (M : zM), k21 x3 x4 M = some (v, MO) → zA l yX2_fewestShut cX2_fewestShut 11 (some .int) 3 0 0 SH.length (zDi SH v MO) 0 0 21 [(0, .ref x0), (1, .ref x1), (2, .int x2), (3, .int x3), (4, .int x4)] [] SH M) (hf : f_X2_fewestShut_102 x0 x1 x2 k21 x3 x4 x6 x7 s0 M = some (v, MO)) : zA l yX2_fewestShut cX2_fewestShut 11 (some .int) 3 0 0 SH.length (zDi SH v MO) 0 0 102 [(0, .ref x0), (1, .ref x1), (2, .int x2), (3, .int x3), (4, .int x4), (6, .int x6), (7, .int x7)] [.int s0] SH M := by
  unfold f_X2_fewestShut_102 at hf
  refine z_istore' (lv' := [(8, .int s0), (0, .ref x0), (1, .ref x1), (2, .int x2), (3, .int x3), (4, .int x4), (6, .int x6), (7, .int x7)]) dX2_fewestShut_102 (by decide) rfl rfl ?_
  refine z_iload dX2_fewestShut_104 rfl ?_
  refine z_if_eq (tgt := 122) dX2_fewestShut_106 (by decide) (fun q_1 => ?_) (fun q_1 => ?_)
  · have hf := (if_pos q_1).symm.trans hf
    refine z_aload_n dX2_fewestShut_122 rfl rfl ?_
    obtain ⟨a_2, ra_2, hf⟩ := z_rd_some hf
    refine zgR fl_X2_15 h0 (fun _ => rfl) ra_2 dX2_fewestShut_123 (fun ha_2 => ?_)
    refine z_iload dX2_fewestShut_126 rfl ?_
    obtain ⟨g_3, hf⟩ := z_ifs hf
    refine z_iald ha_2 g_3 rfl dX2_fewestShut_128 ?_
    refine zA.pick [(0, .ref x0), (1, .ref x1), (2, .int x2), (3, .int x3), (4, .int x4), (7, .int x7)] [1, 2, 3, 4, 5, 7] rfl ?_
    exact t_X2_fewestShut_129 h0 h1 hk21 hf
  · have hf := (if_neg q_1).symm.trans hf
    refine z_aload_n dX2_fewestShut_109 rfl rfl ?_
    obtain ⟨a_4, ra_4, hf⟩ := z_rd_some hf
    refine zgR fl_X2_15 h0 (fun _ => rfl) ra_4 dX2_fewestShut_110 (fun ha_4 => ?_)
    refine z_iload dX2_fewestShut_113 rfl ?_
    obtain ⟨g_5, hf⟩ := z_ifs hf
    refine z_iald ha_4 g_5 rfl dX2_fewestShut_115 ?_
    refine z_iload dX2_fewestShut_116 rfl ?_
    refine z_iadd dX2_fewestShut_118 ?_
    refine z_goto (tgt := 129) dX2_fewestShut_119 (by decide) ?_
    refine zA.pick [(0, .ref x0), (1, .ref x1), (2, .int x2), (3, .int x3), (4, .int x4), (7, .int x7)] [1, 2, 3, 4, 5, 7] rfl ?_
    exact t_X2_fewestShut_129 h0 h1 hk21 hf
noncomputable def f_X2_fewestShut_101 (x0 : Nat) (x1 : Nat) (x2 : Int32) (k21 : Int32 → Int32 → zM → Option (Int32 × zM)) (x3 : Int32) (x4 : Int32) (x6 : Int32) (x7 : Int32) (M : zM) : Option (Int32 × zM) :=
  (f_X2_fewestShut_102 x0 x1 x2 k21 x3 x4 x6 x7 0 M)
set_option maxHeartbeats 2000000 in
set_option maxRecDepth 20000 in
theorem t_X2_fewestShut_101 {l : Launch} {x0 : Nat} {x1 : Nat} {x2 : Int32} {k21 : Int32 → Int32 → zM → Option (Int32 × zM)} {x3 : Int32} {x4 : Int32} {x6 : Int32} {x7 : Int32} {M MO : zM} {v : Int32} (h0 : z_tm SH 2 x0) (h1 : z_tm SH 8 x1) (hk21 : ∀ (x3 : Int32) (x4 : Int32) (M : zM), k21 x3 x4 M = some (v, MO) → zA l yX2_fewestShut cX2_fewestShut 11 (some .int) 3 0 0 SH.length (zDi SH v MO) 0 0 21 [(0, .ref x0), (1, .ref x1), (2, .int x2), (3, .int x3), (4, .int x4)] [] SH M) (hf : f_X2_fewestShut_101 x0 x1 x2 k21 x3 x4 x6 x7 M = some (v, MO)) : zA l yX2_fewestShut cX2_fewestShut 11 (some .int) 3 0 0 SH.length (zDi SH v MO) 0 0 101 [(0, .ref x0), (1, .ref x1), (2, .int x2), (3, .int x3), (4, .int x4), (6, .int x6), (7, .int x7)] [] SH M := by
  unfold f_X2_fewestShut_101 at hf
  refine z_iconst (v := 0) dX2_fewestShut_101 (by decide) ?_
  exact t_X2_fewestShut_102 h0 h1 hk21 hf
noncomputable def f_X2_fewestShut_80 (x0 : Nat) (x1 : Nat) (x2 : Int32) (k21 : Int32 → Int32 → zM → Option (Int32 × zM)) (x3 : Int32) (x4 : Int32) (x5 : Int32) (x6 : Int32) (s0 : Int32) (M : zM) : Option (Int32 × zM) :=
  (if x5 = 0 then (f_X2_fewestShut_101 x0 x1 x2 k21 x3 x4 x6 s0 M) else (if (((x2 : Int32) >>> (x4 &&& 31)) &&& 1) = 1 then (f_X2_fewestShut_102 x0 x1 x2 k21 x3 x4 x6 s0 1 M) else (f_X2_fewestShut_101 x0 x1 x2 k21 x3 x4 x6 s0 M)))
set_option maxHeartbeats 2000000 in
set_option maxRecDepth 20000 in
theorem t_X2_fewestShut_80 {l : Launch} {x0 : Nat} {x1 : Nat} {x2 : Int32} {k21 : Int32 → Int32 → zM → Option (Int32 × zM)} {x3 : Int32} {x4 : Int32} {x5 : Int32} {x6 : Int32} {s0 : Int32} {M MO : zM} {v : Int32} (h0 : z_tm SH 2 x0) (h1 : z_tm SH 8 x1) (hk21 : ∀ (x3 : Int32) (x4 : Int32) (M : zM), k21 x3 x4 M = some (v, MO) → zA l yX2_fewestShut cX2_fewestShut 11 (some .int) 3 0 0 SH.length (zDi SH v MO) 0 0 21 [(0, .ref x0), (1, .ref x1), (2, .int x2), (3, .int x3), (4, .int x4)] [] SH M) (hf : f_X2_fewestShut_80 x0 x1 x2 k21 x3 x4 x5 x6 s0 M = some (v, MO)) : zA l yX2_fewestShut cX2_fewestShut 11 (some .int) 3 0 0 SH.length (zDi SH v MO) 0 0 80 [(0, .ref x0), (1, .ref x1), (2, .int x2), (3, .int x3), (4, .int x4), (5, .int x5), (6, .int x6)] [.int s0] SH M := by
  unfold f_X2_fewestShut_80 at hf
  refine z_istore' (lv' := [(7, .int s0), (0, .ref x0), (1, .ref x1), (2, .int x2), (3, .int x3), (4, .int x4), (5, .int x5), (6, .int x6)]) dX2_fewestShut_80 (by decide) rfl rfl ?_
  refine z_iload dX2_fewestShut_82 rfl ?_
  refine z_if_eq (tgt := 101) dX2_fewestShut_84 (by decide) (fun q_1 => ?_) (fun q_1 => ?_)
  · have hf := (if_pos q_1).symm.trans hf
    refine zA.pick [(0, .ref x0), (1, .ref x1), (2, .int x2), (3, .int x3), (4, .int x4), (6, .int x6), (7, .int s0)] [1, 2, 3, 4, 5, 7, 0] rfl ?_
    exact t_X2_fewestShut_101 h0 h1 hk21 hf
  · have hf := (if_neg q_1).symm.trans hf
    refine z_iload_n dX2_fewestShut_87 rfl rfl ?_
    refine z_iload dX2_fewestShut_88 rfl ?_
    refine z_ishr dX2_fewestShut_90 ?_
    refine z_iconst (v := 1) dX2_fewestShut_91 (by decide) ?_
    refine z_iand dX2_fewestShut_92 ?_
    refine z_iconst (v := 1) dX2_fewestShut_93 (by decide) ?_
    refine z_icmp_ne (tgt := 101) dX2_fewestShut_94 (by decide) (fun q_2 => ?_) (fun q_2 => ?_)
    · have hf := (if_neg q_2).symm.trans hf
      refine zA.pick [(0, .ref x0), (1, .ref x1), (2, .int x2), (3, .int x3), (4, .int x4), (6, .int x6), (7, .int s0)] [1, 2, 3, 4, 5, 7, 0] rfl ?_
      exact t_X2_fewestShut_101 h0 h1 hk21 hf
    · have hf := (if_pos q_2).symm.trans hf
      refine z_iconst (v := 1) dX2_fewestShut_97 (by decide) ?_
      refine z_goto (tgt := 102) dX2_fewestShut_98 (by decide) ?_
      refine zA.pick [(0, .ref x0), (1, .ref x1), (2, .int x2), (3, .int x3), (4, .int x4), (6, .int x6), (7, .int s0)] [1, 2, 3, 4, 5, 7, 0] rfl ?_
      exact t_X2_fewestShut_102 h0 h1 hk21 hf
noncomputable def f_X2_fewestShut_21 (x0 : Nat) (x1 : Nat) (x2 : Int32) : Nat → Int32 → Int32 → zM → Option (Int32 × zM)
  | 0, _, _, _ => none
  | n + 1, x3, x4, M =>
    (if 24 ≤ x4 then some ((x3 &&& 16777215), M) else z_call (f_X8_takesPart x1 x4 M) fun v_2 M_3 => zl ((16777216 ||| ((1 : Int32) <<< (x4 &&& 31)))) fun x6_5 => (if v_2 = 0 then z_rd (M_3.2.1 x0 0) fun a_7 => if z_ix x4 (z_ln SH a_7) = true then (f_X2_fewestShut_80 x0 x1 x2 (f_X2_fewestShut_21 x0 x1 x2 n) x3 x4 v_2 x6_5 (M_3.1 a_7 (x4 : Int32).toNatClampNeg) M_3) else none else z_rd (M_3.2.1 x0 0) fun a_9 => if z_ix x4 (z_ln SH a_9) = true then z_rd (M_3.2.1 x0 1) fun a_11 => if z_ix x4 (z_ln SH a_11) = true then (f_X2_fewestShut_80 x0 x1 x2 (f_X2_fewestShut_21 x0 x1 x2 n) x3 x4 v_2 x6_5 (z_min ((M_3.1 a_9 (x4 : Int32).toNatClampNeg) + x6_5) (M_3.1 a_11 (x4 : Int32).toNatClampNeg)) M_3) else none else none))
set_option maxHeartbeats 2000000 in
set_option maxRecDepth 20000 in
theorem t_X2_fewestShut_21 {l : Launch} {x0 : Nat} {x1 : Nat} {x2 : Int32} {MO : zM} {v : Int32} (h0 : z_tm SH 2 x0) (h1 : z_tm SH 8 x1) : ∀ (n : Nat) (x3 : Int32) (x4 : Int32) (M : zM), f_X2_fewestShut_21 x0 x1 x2 n x3 x4 M = some (v, MO) → zA l yX2_fewestShut cX2_fewestShut 11 (some .int) 3 0 0 SH.length (zDi SH v MO) 0 0 21 [(0, .ref x0), (1, .ref x1), (2, .int x2), (3, .int x3), (4, .int x4)] [] SH M := by
  intro n
  induction n with
  | zero =>
    intro x3 x4 M hf
    rw [f_X2_fewestShut_21] at hf
    cases hf
  | succ n ih =>
    intro x3 x4 M hf
    rw [f_X2_fewestShut_21] at hf
    refine z_iload dX2_fewestShut_21 rfl ?_
    refine z_bipush (v := 24) dX2_fewestShut_23 (by decide) ?_
    refine z_icmp_ge (tgt := 185) dX2_fewestShut_25 (by decide) (fun q_1 => ?_) (fun q_1 => ?_)
    · have hf := (if_pos q_1).symm.trans hf
      refine z_iload_n dX2_fewestShut_185 rfl rfl ?_
      refine z_ldc (v := 16777215) dX2_fewestShut_186 cn_X2_64 ?_
      refine z_iand dX2_fewestShut_188 ?_
      obtain ⟨rfl, rfl⟩ := z_end hf
      exact z_iret ⟨rfl, rfl, rfl⟩ (Or.inl rfl) dX2_fewestShut_189
    · have hf := (if_neg q_1).symm.trans hf
      refine z_aload_n dX2_fewestShut_28 rfl rfl ?_
      refine z_iload dX2_fewestShut_29 rfl ?_
      obtain ⟨v_2, M_3, c_4, hf⟩ := z_call_some hf
      refine z_cVi (t_X8_takesPart h1 c_4) kw_X8_takesPart lk_X2_45 h1 rfl (by decide) rfl (Nat.le_of_ble_eq_true rfl) ⟨Nat.le_refl 0, Nat.le_refl 0⟩ dX2_fewestShut_31 ?_
      refine z_istore' (lv' := [(5, .int v_2), (0, .ref x0), (1, .ref x1), (2, .int x2), (3, .int x3), (4, .int x4)]) dX2_fewestShut_34 (by decide) rfl rfl ?_
      refine z_ldc (v := 16777216) dX2_fewestShut_36 cn_X2_51 ?_
      refine z_iconst (v := 1) dX2_fewestShut_38 (by decide) ?_
      refine z_iload dX2_fewestShut_39 rfl ?_
      refine z_ishl dX2_fewestShut_41 ?_
      refine z_ior dX2_fewestShut_42 ?_
      obtain ⟨x6_5, ex6_5, hf⟩ := zl_some hf
      refine z_istore' (lv' := [(6, .int x6_5), (5, .int v_2), (0, .ref x0), (1, .ref x1), (2, .int x2), (3, .int x3), (4, .int x4)]) dX2_fewestShut_43 (by decide) ex6_5 rfl ?_
      refine z_iload dX2_fewestShut_45 rfl ?_
      refine z_if_eq (tgt := 73) dX2_fewestShut_47 (by decide) (fun q_6 => ?_) (fun q_6 => ?_)
      · have hf := (if_pos q_6).symm.trans hf
        refine z_aload_n dX2_fewestShut_73 rfl rfl ?_
        obtain ⟨a_7, ra_7, hf⟩ := z_rd_some hf
        refine zgR fl_X2_9 h0 (fun _ => rfl) ra_7 dX2_fewestShut_74 (fun ha_7 => ?_)
        refine z_iload dX2_fewestShut_77 rfl ?_
        obtain ⟨g_8, hf⟩ := z_ifs hf
        refine z_iald ha_7 g_8 rfl dX2_fewestShut_79 ?_
        refine zA.pick [(0, .ref x0), (1, .ref x1), (2, .int x2), (3, .int x3), (4, .int x4), (5, .int v_2), (6, .int x6_5)] [2, 3, 4, 5, 6, 1, 0] rfl ?_
        exact t_X2_fewestShut_80 h0 h1 ih hf
      · have hf := (if_neg q_6).symm.trans hf
        refine z_aload_n dX2_fewestShut_50 rfl rfl ?_
        obtain ⟨a_9, ra_9, hf⟩ := z_rd_some hf
        refine zgR fl_X2_9 h0 (fun _ => rfl) ra_9 dX2_fewestShut_51 (fun ha_9 => ?_)
        refine z_iload dX2_fewestShut_54 rfl ?_
        obtain ⟨g_10, hf⟩ := z_ifs hf
        refine z_iald ha_9 g_10 rfl dX2_fewestShut_56 ?_
        refine z_iload dX2_fewestShut_57 rfl ?_
        refine z_iadd dX2_fewestShut_59 ?_
        refine z_aload_n dX2_fewestShut_60 rfl rfl ?_
        obtain ⟨a_11, ra_11, hf⟩ := z_rd_some hf
        refine zgR fl_X2_15 h0 (fun _ => rfl) ra_11 dX2_fewestShut_61 (fun ha_11 => ?_)
        refine z_iload dX2_fewestShut_64 rfl ?_
        obtain ⟨g_12, hf⟩ := z_ifs hf
        refine z_iald ha_11 g_12 rfl dX2_fewestShut_66 ?_
        refine z_mmin mm_X2_52 mm_smin mm_ini mm_cmin (by decide) (Nat.le_of_ble_eq_true rfl) dX2_fewestShut_67 ?_
        refine z_goto (tgt := 80) dX2_fewestShut_70 (by decide) ?_
        refine zA.pick [(0, .ref x0), (1, .ref x1), (2, .int x2), (3, .int x3), (4, .int x4), (5, .int v_2), (6, .int x6_5)] [2, 3, 4, 5, 6, 1, 0] rfl ?_
        exact t_X2_fewestShut_80 h0 h1 ih hf
noncomputable def f_X2_fewestShut (x0 : Nat) (x1 : Nat) (x2 : Int32) (M : zM) : Option (Int32 × zM) :=
  z_rd (M.2.1 x0 0) fun a_1 => z_call (f_J7_fill_53178 a_1 0 M) fun v_2 M_3 => z_rd (M_3.2.1 x0 1) fun a_5 => z_call (f_J7_fill_53178 a_5 0 M_3) fun v_6 M_7 => (f_X2_fewestShut_21 x0 x1 x2 zF 0 0 M_7)
set_option maxHeartbeats 2000000 in
set_option maxRecDepth 20000 in
theorem t_X2_fewestShut {l : Launch} {x0 : Nat} {x1 : Nat} {x2 : Int32} {M MO : zM} {v : Int32} (h0 : z_tm SH 2 x0) (h1 : z_tm SH 8 x1) (hf : f_X2_fewestShut x0 x1 x2 M = some (v, MO)) : zMet l yX2_fewestShut cX2_fewestShut 11 (some .int) 3 0 0 [.ref x0, .ref x1, .int x2] SH M (zDi SH v MO) := by
  refine zMet.of (by decide +kernel) (Nat.le_of_ble_eq_true rfl) (Or.inr (Or.inl rfl)) ?_
  show zA l yX2_fewestShut cX2_fewestShut 11 (some .int) 3 0 0 SH.length (zDi SH v MO) 0 0 0 [(0, .ref x0), (1, .ref x1), (2, .int x2)] [] SH M
  unfold f_X2_fewestShut at hf
  refine z_aload_n dX2_fewestShut_0 rfl rfl ?_
  obtain ⟨a_1, ra_1, hf⟩ := z_rd_some hf
  refine zgR fl_X2_9 h0 (fun _ => rfl) ra_1 dX2_fewestShut_1 (fun ha_1 => ?_)
  refine z_iconst (v := 0) dX2_fewestShut_4 (by decide) ?_
  obtain ⟨v_2, M_3, c_4, hf⟩ := z_call_some hf
  refine z_cSv (t_J7_fill_53178 ha_1 c_4) kw_J7_fill_53178 lk_X2_33 rfl (by decide) rfl (Nat.le_of_ble_eq_true rfl) ⟨Nat.le_refl 0, Nat.le_refl 0⟩ dX2_fewestShut_5 ?_
  refine z_aload_n dX2_fewestShut_8 rfl rfl ?_
  obtain ⟨a_5, ra_5, hf⟩ := z_rd_some hf
  refine zgR fl_X2_15 h0 (fun _ => rfl) ra_5 dX2_fewestShut_9 (fun ha_5 => ?_)
  refine z_iconst (v := 0) dX2_fewestShut_12 (by decide) ?_
  obtain ⟨v_6, M_7, c_8, hf⟩ := z_call_some hf
  refine z_cSv (t_J7_fill_53178 ha_5 c_8) kw_J7_fill_53178 lk_X2_33 rfl (by decide) rfl (Nat.le_of_ble_eq_true rfl) ⟨Nat.le_refl 0, Nat.le_refl 0⟩ dX2_fewestShut_13 ?_
  refine z_iconst (v := 0) dX2_fewestShut_16 (by decide) ?_
  refine z_istore_n' (lv' := [(3, .int 0), (0, .ref x0), (1, .ref x1), (2, .int x2)]) rfl dX2_fewestShut_17 (by decide) rfl rfl ?_
  refine z_iconst (v := 0) dX2_fewestShut_18 (by decide) ?_
  refine z_istore' (lv' := [(4, .int 0), (3, .int 0), (0, .ref x0), (1, .ref x1), (2, .int x2)]) dX2_fewestShut_19 (by decide) rfl rfl ?_
  refine zA.pick [(0, .ref x0), (1, .ref x1), (2, .int x2), (3, .int 0), (4, .int 0)] [2, 3, 4, 1, 0] rfl ?_
  exact t_X2_fewestShut_21 h0 h1 zF 0 0 M_7 hf
noncomputable def f_X7_aside (x0 : Nat) (x1 : Int32) (M : zM) : Option (Int32 × zM) :=
  z_rd (M.2.1 x0 1) fun a_1 => if z_ix x1 (z_ln SH a_1) = true then z_rd (M.2.1 x0 2) fun a_3 => if z_ix x1 (z_ln SH a_3) = true then some ((z_min (M.1 a_1 (x1 : Int32).toNatClampNeg) (M.1 a_3 (x1 : Int32).toNatClampNeg)), M) else none else none
set_option maxHeartbeats 2000000 in
set_option maxRecDepth 20000 in
theorem t_X7_aside {l : Launch} {x0 : Nat} {x1 : Int32} {M MO : zM} {v : Int32} (h0 : z_tm SH 7 x0) (hf : f_X7_aside x0 x1 M = some (v, MO)) : zMet l yX7_aside cX7_aside 2 (some .int) 1 0 0 [.ref x0, .int x1] SH M (zDi SH v MO) := by
  refine zMet.of (by decide +kernel) (Nat.le_of_ble_eq_true rfl) (Or.inr (Or.inl rfl)) ?_
  show zA l yX7_aside cX7_aside 2 (some .int) 1 0 0 SH.length (zDi SH v MO) 0 0 0 [(0, .ref x0), (1, .int x1)] [] SH M
  unfold f_X7_aside at hf
  refine z_aload_n dX7_aside_0 rfl rfl ?_
  obtain ⟨a_1, ra_1, hf⟩ := z_rd_some hf
  refine zgR fl_X7_15 h0 (fun _ => rfl) ra_1 dX7_aside_1 (fun ha_1 => ?_)
  refine z_iload_n dX7_aside_4 rfl rfl ?_
  obtain ⟨g_2, hf⟩ := z_ifs hf
  refine z_iald ha_1 g_2 rfl dX7_aside_5 ?_
  refine z_aload_n dX7_aside_6 rfl rfl ?_
  obtain ⟨a_3, ra_3, hf⟩ := z_rd_some hf
  refine zgR fl_X7_18 h0 (fun _ => rfl) ra_3 dX7_aside_7 (fun ha_3 => ?_)
  refine z_iload_n dX7_aside_10 rfl rfl ?_
  obtain ⟨g_4, hf⟩ := z_ifs hf
  refine z_iald ha_3 g_4 rfl dX7_aside_11 ?_
  refine z_mmin mm_X7_48 mm_smin mm_ini mm_cmin (by decide) (Nat.le_of_ble_eq_true rfl) dX7_aside_12 ?_
  obtain ⟨rfl, rfl⟩ := z_end hf
  exact z_iret ⟨rfl, rfl, rfl⟩ (Or.inl rfl) dX7_aside_15
noncomputable def f_X7_costAt_19 (x4 : Int32) (s0 : Int32) (M : zM) : Option (Int32 × zM) :=
  (if s0 = 0 then some ((z_min 1000000 (x4 + 1)), M) else some (1000000, M))
set_option maxHeartbeats 2000000 in
set_option maxRecDepth 20000 in
theorem t_X7_costAt_19 {l : Launch} {x4 : Int32} {s0 : Int32} {M MO : zM} {v : Int32} (hf : f_X7_costAt_19 x4 s0 M = some (v, MO)) : zA l yX7_costAt cX7_costAt 6 (some .int) 1 0 0 SH.length (zDi SH v MO) 0 0 19 [(4, .int x4)] [.int s0] SH M := by
  unfold f_X7_costAt_19 at hf
  refine z_istore' (lv' := [(5, .int s0), (4, .int x4)]) dX7_costAt_19 (by decide) rfl rfl ?_
  refine z_iload dX7_costAt_21 rfl ?_
  refine z_if_eq (tgt := 31) dX7_costAt_23 (by decide) (fun q_1 => ?_) (fun q_1 => ?_)
  · have hf := (if_pos q_1).symm.trans hf
    refine z_ldc (v := 1000000) dX7_costAt_31 cn_X7_27 ?_
    refine z_iload dX7_costAt_33 rfl ?_
    refine z_iconst (v := 1) dX7_costAt_35 (by decide) ?_
    refine z_iadd dX7_costAt_36 ?_
    refine z_mmin mm_X7_48 mm_smin mm_ini mm_cmin (by decide) (Nat.le_of_ble_eq_true rfl) dX7_costAt_37 ?_
    obtain ⟨rfl, rfl⟩ := z_end hf
    exact z_iret ⟨rfl, rfl, rfl⟩ (Or.inl rfl) dX7_costAt_40
  · have hf := (if_neg q_1).symm.trans hf
    refine z_ldc (v := 1000000) dX7_costAt_26 cn_X7_27 ?_
    refine z_goto (tgt := 40) dX7_costAt_28 (by decide) ?_
    obtain ⟨rfl, rfl⟩ := z_end hf
    exact z_iret ⟨rfl, rfl, rfl⟩ (Or.inl rfl) dX7_costAt_40
noncomputable def f_X7_costAt (x0 : Nat) (x1 : Int32) (x2 : Int32) (x3 : Int32) (x4 : Int32) (M : zM) : Option (Int32 × zM) :=
  z_rd (M.2.1 x0 2) fun a_1 => if z_ix ((x1 * 4) + x2) (z_ln SH a_1) = true then (if (M.1 a_1 (((x1 * 4) + x2) : Int32).toNatClampNeg) ≤ x3 then (f_X7_costAt_19 x4 0 M) else (f_X7_costAt_19 x4 1 M)) else none
set_option maxHeartbeats 2000000 in
set_option maxRecDepth 20000 in
theorem t_X7_costAt {l : Launch} {x0 : Nat} {x1 : Int32} {x2 : Int32} {x3 : Int32} {x4 : Int32} {M MO : zM} {v : Int32} (h0 : z_tm SH 8 x0) (hf : f_X7_costAt x0 x1 x2 x3 x4 M = some (v, MO)) : zMet l yX7_costAt cX7_costAt 6 (some .int) 1 0 0 [.ref x0, .int x1, .int x2, .int x3, .int x4] SH M (zDi SH v MO) := by
  refine zMet.of (by decide +kernel) (Nat.le_of_ble_eq_true rfl) (Or.inr (Or.inl rfl)) ?_
  show zA l yX7_costAt cX7_costAt 6 (some .int) 1 0 0 SH.length (zDi SH v MO) 0 0 0 [(0, .ref x0), (1, .int x1), (2, .int x2), (3, .int x3), (4, .int x4)] [] SH M
  unfold f_X7_costAt at hf
  refine z_aload_n dX7_costAt_0 rfl rfl ?_
  obtain ⟨a_1, ra_1, hf⟩ := z_rd_some hf
  refine zgR fl_X7_58 h0 (fun _ => rfl) ra_1 dX7_costAt_1 (fun ha_1 => ?_)
  refine z_iload_n dX7_costAt_4 rfl rfl ?_
  refine z_iconst (v := 4) dX7_costAt_5 (by decide) ?_
  refine z_imul dX7_costAt_6 ?_
  refine z_iload_n dX7_costAt_7 rfl rfl ?_
  refine z_iadd dX7_costAt_8 ?_
  obtain ⟨g_2, hf⟩ := z_ifs hf
  refine z_iald ha_1 g_2 rfl dX7_costAt_9 ?_
  refine z_iload_n dX7_costAt_10 rfl rfl ?_
  refine z_icmp_le (tgt := 18) dX7_costAt_11 (by decide) (fun q_3 => ?_) (fun q_3 => ?_)
  · have hf := (if_pos q_3).symm.trans hf
    refine z_iconst (v := 0) dX7_costAt_18 (by decide) ?_
    refine zA.pick [(4, .int x4)] [4] rfl ?_
    exact t_X7_costAt_19  hf
  · have hf := (if_neg q_3).symm.trans hf
    refine z_iconst (v := 1) dX7_costAt_14 (by decide) ?_
    refine z_goto (tgt := 19) dX7_costAt_15 (by decide) ?_
    refine zA.pick [(4, .int x4)] [4] rfl ?_
    exact t_X7_costAt_19  hf
noncomputable def f_X7_goDown_3 (x0 : Nat) (x1 : Nat) (x2 : Int32) (x3 : Int32) : Nat → Int32 → zM → Option (Unit × zM)
  | 0, _, _ => none
  | n + 1, x4, M =>
    (if 4 ≤ x4 then some ((), M) else z_rd (M.2.1 x0 0) fun a_2 => z_rd (M.2.1 x0 0) fun a_3 => if z_ix x4 (z_ln SH a_3) = true then z_call (f_X7_aside x0 x4 M) fun v_5 M_6 => z_call (f_X7_costAt x1 x2 x4 x3 (z_min (M.1 a_3 (x4 : Int32).toNatClampNeg) (v_5 + 100)) M_6) fun v_8 M_9 => if z_ix x4 (z_ln SH a_2) = true then zl (zu M_9.1 a_2 (x4 : Int32).toNatClampNeg v_8, M_9.2) fun M_12 => zl (x4 + 1) fun x4_13 => (f_X7_goDown_3 x0 x1 x2 x3 n x4_13 M_12) else none else none)
set_option maxHeartbeats 2000000 in
set_option maxRecDepth 20000 in
theorem t_X7_goDown_3 {l : Launch} {x0 : Nat} {x1 : Nat} {x2 : Int32} {x3 : Int32} {MO : zM} {v : Unit} (h0 : z_tm SH 7 x0) (h1 : z_tm SH 8 x1) : ∀ (n : Nat) (x4 : Int32) (M : zM), f_X7_goDown_3 x0 x1 x2 x3 n x4 M = some (v, MO) → zA l yX7_goDown cX7_goDown 5 none 2 0 0 SH.length (zDv SH MO) 0 0 3 [(0, .ref x0), (1, .ref x1), (2, .int x2), (3, .int x3), (4, .int x4)] [] SH M := by
  intro n
  induction n with
  | zero =>
    intro x4 M hf
    rw [f_X7_goDown_3] at hf
    cases hf
  | succ n ih =>
    intro x4 M hf
    rw [f_X7_goDown_3] at hf
    refine z_iload dX7_goDown_3 rfl ?_
    refine z_iconst (v := 4) dX7_goDown_5 (by decide) ?_
    refine z_icmp_ge (tgt := 49) dX7_goDown_6 (by decide) (fun q_1 => ?_) (fun q_1 => ?_)
    · have hf := (if_pos q_1).symm.trans hf
      obtain ⟨rfl, rfl⟩ := z_end hf
      exact z_vret ⟨rfl, rfl, rfl⟩ rfl dX7_goDown_49
    · have hf := (if_neg q_1).symm.trans hf
      refine z_aload_n dX7_goDown_9 rfl rfl ?_
      obtain ⟨a_2, ra_2, hf⟩ := z_rd_some hf
      refine zgR fl_X7_9 h0 (fun _ => rfl) ra_2 dX7_goDown_10 (fun ha_2 => ?_)
      refine z_iload dX7_goDown_13 rfl ?_
      refine z_aload_n dX7_goDown_15 rfl rfl ?_
      refine z_iload_n dX7_goDown_16 rfl rfl ?_
      refine z_iload dX7_goDown_17 rfl ?_
      refine z_iload_n dX7_goDown_19 rfl rfl ?_
      refine z_aload_n dX7_goDown_20 rfl rfl ?_
      obtain ⟨a_3, ra_3, hf⟩ := z_rd_some hf
      refine zgR fl_X7_9 h0 (fun _ => rfl) ra_3 dX7_goDown_21 (fun ha_3 => ?_)
      refine z_iload dX7_goDown_24 rfl ?_
      obtain ⟨g_4, hf⟩ := z_ifs hf
      refine z_iald ha_3 g_4 rfl dX7_goDown_26 ?_
      refine z_aload_n dX7_goDown_27 rfl rfl ?_
      refine z_iload dX7_goDown_28 rfl ?_
      obtain ⟨v_5, M_6, c_7, hf⟩ := z_call_some hf
      refine z_cVi (t_X7_aside h0 c_7) kw_X7_aside lk_X7_45 h0 rfl (by decide) rfl (Nat.le_of_ble_eq_true rfl) ⟨Nat.le_refl 0, Nat.le_refl 0⟩ dX7_goDown_30 ?_
      refine z_bipush (v := 100) dX7_goDown_33 (by decide) ?_
      refine z_iadd dX7_goDown_35 ?_
      refine z_mmin mm_X7_48 mm_smin mm_ini mm_cmin (by decide) (Nat.le_of_ble_eq_true rfl) dX7_goDown_36 ?_
      obtain ⟨v_8, M_9, c_10, hf⟩ := z_call_some hf
      refine z_cSi (t_X7_costAt h1 c_10) kw_X7_costAt lk_X7_54 rfl (by decide) rfl (Nat.le_of_ble_eq_true rfl) ⟨Nat.le_refl 0, Nat.le_refl 0⟩ dX7_goDown_39 ?_
      obtain ⟨g_11, hf⟩ := z_ifs hf
      obtain ⟨M_12, eM_12, hf⟩ := zl_some hf
      refine z_iast ha_2 g_11 eM_12 dX7_goDown_42 ?_
      obtain ⟨x4_13, ex4_13, hf⟩ := zl_some hf
      refine z_iinc' (lv' := [(4, .int x4_13), (0, .ref x0), (1, .ref x1), (2, .int x2), (3, .int x3)]) dX7_goDown_43 rfl (by decide) ex4_13 (by decide) rfl ?_
      refine z_goto (tgt := 3) dX7_goDown_46 (by decide) ?_
      refine zA.pick [(0, .ref x0), (1, .ref x1), (2, .int x2), (3, .int x3), (4, .int x4_13)] [1, 2, 3, 4, 0] rfl ?_
      exact ih x4_13 M_12 hf
noncomputable def f_X7_goDown (x0 : Nat) (x1 : Nat) (x2 : Int32) (x3 : Int32) (M : zM) : Option (Unit × zM) :=
  (f_X7_goDown_3 x0 x1 x2 x3 zF 0 M)
set_option maxHeartbeats 2000000 in
set_option maxRecDepth 20000 in
theorem t_X7_goDown {l : Launch} {x0 : Nat} {x1 : Nat} {x2 : Int32} {x3 : Int32} {M MO : zM} {v : Unit} (h0 : z_tm SH 7 x0) (h1 : z_tm SH 8 x1) (hf : f_X7_goDown x0 x1 x2 x3 M = some (v, MO)) : zMet l yX7_goDown cX7_goDown 5 none 2 0 0 [.ref x0, .ref x1, .int x2, .int x3] SH M (zDv SH MO) := by
  refine zMet.of (by decide +kernel) (Nat.le_of_ble_eq_true rfl) (Or.inl rfl) ?_
  show zA l yX7_goDown cX7_goDown 5 none 2 0 0 SH.length (zDv SH MO) 0 0 0 [(0, .ref x0), (1, .ref x1), (2, .int x2), (3, .int x3)] [] SH M
  unfold f_X7_goDown at hf
  refine z_iconst (v := 0) dX7_goDown_0 (by decide) ?_
  refine z_istore' (lv' := [(4, .int 0), (0, .ref x0), (1, .ref x1), (2, .int x2), (3, .int x3)]) dX7_goDown_1 (by decide) rfl rfl ?_
  refine zA.pick [(0, .ref x0), (1, .ref x1), (2, .int x2), (3, .int x3), (4, .int 0)] [1, 2, 3, 4, 0] rfl ?_
  exact t_X7_goDown_3 h0 h1 zF 0 M hf
noncomputable def f_X7_goLeft_11 (x0 : Nat) (x1 : Nat) (x2 : Int32) (x3 : Int32) : Nat → Int32 → zM → Option (Unit × zM)
  | 0, _, _ => none
  | n + 1, x4, M =>
    (if x4 < 0 then some ((), M) else z_rd (M.2.1 x0 1) fun a_2 => z_rd (M.2.1 x0 0) fun a_3 => if z_ix (x4 + 1) (z_ln SH a_3) = true then z_rd (M.2.1 x0 1) fun a_5 => if z_ix (x4 + 1) (z_ln SH a_5) = true then z_call (f_X7_costAt x1 x2 x4 x3 (z_min ((M.1 a_3 ((x4 + 1) : Int32).toNatClampNeg) + 100) (M.1 a_5 ((x4 + 1) : Int32).toNatClampNeg)) M) fun v_7 M_8 => if z_ix x4 (z_ln SH a_2) = true then zl (zu M_8.1 a_2 (x4 : Int32).toNatClampNeg v_7, M_8.2) fun M_11 => zl (x4 + (-1)) fun x4_12 => (f_X7_goLeft_11 x0 x1 x2 x3 n x4_12 M_11) else none else none else none)
set_option maxHeartbeats 2000000 in
set_option maxRecDepth 20000 in
theorem t_X7_goLeft_11 {l : Launch} {x0 : Nat} {x1 : Nat} {x2 : Int32} {x3 : Int32} {MO : zM} {v : Unit} (h0 : z_tm SH 7 x0) (h1 : z_tm SH 8 x1) : ∀ (n : Nat) (x4 : Int32) (M : zM), f_X7_goLeft_11 x0 x1 x2 x3 n x4 M = some (v, MO) → zA l yX7_goLeft cX7_goLeft 5 none 2 0 0 SH.length (zDv SH MO) 0 0 11 [(0, .ref x0), (1, .ref x1), (2, .int x2), (3, .int x3), (4, .int x4)] [] SH M := by
  intro n
  induction n with
  | zero =>
    intro x4 M hf
    rw [f_X7_goLeft_11] at hf
    cases hf
  | succ n ih =>
    intro x4 M hf
    rw [f_X7_goLeft_11] at hf
    refine z_iload dX7_goLeft_11 rfl ?_
    refine z_if_lt (tgt := 61) dX7_goLeft_13 (by decide) (fun q_1 => ?_) (fun q_1 => ?_)
    · have hf := (if_pos q_1).symm.trans hf
      obtain ⟨rfl, rfl⟩ := z_end hf
      exact z_vret ⟨rfl, rfl, rfl⟩ rfl dX7_goLeft_61
    · have hf := (if_neg q_1).symm.trans hf
      refine z_aload_n dX7_goLeft_16 rfl rfl ?_
      obtain ⟨a_2, ra_2, hf⟩ := z_rd_some hf
      refine zgR fl_X7_15 h0 (fun _ => rfl) ra_2 dX7_goLeft_17 (fun ha_2 => ?_)
      refine z_iload dX7_goLeft_20 rfl ?_
      refine z_aload_n dX7_goLeft_22 rfl rfl ?_
      refine z_iload_n dX7_goLeft_23 rfl rfl ?_
      refine z_iload dX7_goLeft_24 rfl ?_
      refine z_iload_n dX7_goLeft_26 rfl rfl ?_
      refine z_aload_n dX7_goLeft_27 rfl rfl ?_
      obtain ⟨a_3, ra_3, hf⟩ := z_rd_some hf
      refine zgR fl_X7_9 h0 (fun _ => rfl) ra_3 dX7_goLeft_28 (fun ha_3 => ?_)
      refine z_iload dX7_goLeft_31 rfl ?_
      refine z_iconst (v := 1) dX7_goLeft_33 (by decide) ?_
      refine z_iadd dX7_goLeft_34 ?_
      obtain ⟨g_4, hf⟩ := z_ifs hf
      refine z_iald ha_3 g_4 rfl dX7_goLeft_35 ?_
      refine z_bipush (v := 100) dX7_goLeft_36 (by decide) ?_
      refine z_iadd dX7_goLeft_38 ?_
      refine z_aload_n dX7_goLeft_39 rfl rfl ?_
      obtain ⟨a_5, ra_5, hf⟩ := z_rd_some hf
      refine zgR fl_X7_15 h0 (fun _ => rfl) ra_5 dX7_goLeft_40 (fun ha_5 => ?_)
      refine z_iload dX7_goLeft_43 rfl ?_
      refine z_iconst (v := 1) dX7_goLeft_45 (by decide) ?_
      refine z_iadd dX7_goLeft_46 ?_
      obtain ⟨g_6, hf⟩ := z_ifs hf
      refine z_iald ha_5 g_6 rfl dX7_goLeft_47 ?_
      refine z_mmin mm_X7_48 mm_smin mm_ini mm_cmin (by decide) (Nat.le_of_ble_eq_true rfl) dX7_goLeft_48 ?_
      obtain ⟨v_7, M_8, c_9, hf⟩ := z_call_some hf
      refine z_cSi (t_X7_costAt h1 c_9) kw_X7_costAt lk_X7_54 rfl (by decide) rfl (Nat.le_of_ble_eq_true rfl) ⟨Nat.le_refl 0, Nat.le_refl 0⟩ dX7_goLeft_51 ?_
      obtain ⟨g_10, hf⟩ := z_ifs hf
      obtain ⟨M_11, eM_11, hf⟩ := zl_some hf
      refine z_iast ha_2 g_10 eM_11 dX7_goLeft_54 ?_
      obtain ⟨x4_12, ex4_12, hf⟩ := zl_some hf
      refine z_iinc' (lv' := [(4, .int x4_12), (0, .ref x0), (1, .ref x1), (2, .int x2), (3, .int x3)]) dX7_goLeft_55 rfl (by decide) ex4_12 (by decide) rfl ?_
      refine z_goto (tgt := 11) dX7_goLeft_58 (by decide) ?_
      refine zA.pick [(0, .ref x0), (1, .ref x1), (2, .int x2), (3, .int x3), (4, .int x4_12)] [1, 2, 3, 4, 0] rfl ?_
      exact ih x4_12 M_11 hf
noncomputable def f_X7_goLeft (x0 : Nat) (x1 : Nat) (x2 : Int32) (x3 : Int32) (M : zM) : Option (Unit × zM) :=
  z_rd (M.2.1 x0 1) fun a_1 => if z_ix 3 (z_ln SH a_1) = true then zl (zu M.1 a_1 (3 : Int32).toNatClampNeg 1000000, M.2) fun M_3 => (f_X7_goLeft_11 x0 x1 x2 x3 zF 2 M_3) else none
set_option maxHeartbeats 2000000 in
set_option maxRecDepth 20000 in
theorem t_X7_goLeft {l : Launch} {x0 : Nat} {x1 : Nat} {x2 : Int32} {x3 : Int32} {M MO : zM} {v : Unit} (h0 : z_tm SH 7 x0) (h1 : z_tm SH 8 x1) (hf : f_X7_goLeft x0 x1 x2 x3 M = some (v, MO)) : zMet l yX7_goLeft cX7_goLeft 5 none 2 0 0 [.ref x0, .ref x1, .int x2, .int x3] SH M (zDv SH MO) := by
  refine zMet.of (by decide +kernel) (Nat.le_of_ble_eq_true rfl) (Or.inl rfl) ?_
  show zA l yX7_goLeft cX7_goLeft 5 none 2 0 0 SH.length (zDv SH MO) 0 0 0 [(0, .ref x0), (1, .ref x1), (2, .int x2), (3, .int x3)] [] SH M
  unfold f_X7_goLeft at hf
  refine z_aload_n dX7_goLeft_0 rfl rfl ?_
  obtain ⟨a_1, ra_1, hf⟩ := z_rd_some hf
  refine zgR fl_X7_15 h0 (fun _ => rfl) ra_1 dX7_goLeft_1 (fun ha_1 => ?_)
  refine z_iconst (v := 3) dX7_goLeft_4 (by decide) ?_
  refine z_ldc (v := 1000000) dX7_goLeft_5 cn_X7_27 ?_
  obtain ⟨g_2, hf⟩ := z_ifs hf
  obtain ⟨M_3, eM_3, hf⟩ := zl_some hf
  refine z_iast ha_1 g_2 eM_3 dX7_goLeft_7 ?_
  refine z_iconst (v := 2) dX7_goLeft_8 (by decide) ?_
  refine z_istore' (lv' := [(4, .int 2), (0, .ref x0), (1, .ref x1), (2, .int x2), (3, .int x3)]) dX7_goLeft_9 (by decide) rfl rfl ?_
  refine zA.pick [(0, .ref x0), (1, .ref x1), (2, .int x2), (3, .int x3), (4, .int 2)] [1, 2, 3, 4, 0] rfl ?_
  exact t_X7_goLeft_11 h0 h1 zF 2 M_3 hf
noncomputable def f_X7_goRight_11 (x0 : Nat) (x1 : Nat) (x2 : Int32) (x3 : Int32) : Nat → Int32 → zM → Option (Unit × zM)
  | 0, _, _ => none
  | n + 1, x4, M =>
    (if 4 ≤ x4 then some ((), M) else z_rd (M.2.1 x0 2) fun a_2 => z_rd (M.2.1 x0 0) fun a_3 => if z_ix (x4 - 1) (z_ln SH a_3) = true then z_rd (M.2.1 x0 2) fun a_5 => if z_ix (x4 - 1) (z_ln SH a_5) = true then z_call (f_X7_costAt x1 x2 x4 x3 (z_min ((M.1 a_3 ((x4 - 1) : Int32).toNatClampNeg) + 100) (M.1 a_5 ((x4 - 1) : Int32).toNatClampNeg)) M) fun v_7 M_8 => if z_ix x4 (z_ln SH a_2) = true then zl (zu M_8.1 a_2 (x4 : Int32).toNatClampNeg v_7, M_8.2) fun M_11 => zl (x4 + 1) fun x4_12 => (f_X7_goRight_11 x0 x1 x2 x3 n x4_12 M_11) else none else none else none)
set_option maxHeartbeats 2000000 in
set_option maxRecDepth 20000 in
theorem t_X7_goRight_11 {l : Launch} {x0 : Nat} {x1 : Nat} {x2 : Int32} {x3 : Int32} {MO : zM} {v : Unit} (h0 : z_tm SH 7 x0) (h1 : z_tm SH 8 x1) : ∀ (n : Nat) (x4 : Int32) (M : zM), f_X7_goRight_11 x0 x1 x2 x3 n x4 M = some (v, MO) → zA l yX7_goRight cX7_goRight 5 none 2 0 0 SH.length (zDv SH MO) 0 0 11 [(0, .ref x0), (1, .ref x1), (2, .int x2), (3, .int x3), (4, .int x4)] [] SH M := by
  intro n
  induction n with
  | zero =>
    intro x4 M hf
    rw [f_X7_goRight_11] at hf
    cases hf
  | succ n ih =>
    intro x4 M hf
    rw [f_X7_goRight_11] at hf
    refine z_iload dX7_goRight_11 rfl ?_
    refine z_iconst (v := 4) dX7_goRight_13 (by decide) ?_
    refine z_icmp_ge (tgt := 62) dX7_goRight_14 (by decide) (fun q_1 => ?_) (fun q_1 => ?_)
    · have hf := (if_pos q_1).symm.trans hf
      obtain ⟨rfl, rfl⟩ := z_end hf
      exact z_vret ⟨rfl, rfl, rfl⟩ rfl dX7_goRight_62
    · have hf := (if_neg q_1).symm.trans hf
      refine z_aload_n dX7_goRight_17 rfl rfl ?_
      obtain ⟨a_2, ra_2, hf⟩ := z_rd_some hf
      refine zgR fl_X7_18 h0 (fun _ => rfl) ra_2 dX7_goRight_18 (fun ha_2 => ?_)
      refine z_iload dX7_goRight_21 rfl ?_
      refine z_aload_n dX7_goRight_23 rfl rfl ?_
      refine z_iload_n dX7_goRight_24 rfl rfl ?_
      refine z_iload dX7_goRight_25 rfl ?_
      refine z_iload_n dX7_goRight_27 rfl rfl ?_
      refine z_aload_n dX7_goRight_28 rfl rfl ?_
      obtain ⟨a_3, ra_3, hf⟩ := z_rd_some hf
      refine zgR fl_X7_9 h0 (fun _ => rfl) ra_3 dX7_goRight_29 (fun ha_3 => ?_)
      refine z_iload dX7_goRight_32 rfl ?_
      refine z_iconst (v := 1) dX7_goRight_34 (by decide) ?_
      refine z_isub dX7_goRight_35 ?_
      obtain ⟨g_4, hf⟩ := z_ifs hf
      refine z_iald ha_3 g_4 rfl dX7_goRight_36 ?_
      refine z_bipush (v := 100) dX7_goRight_37 (by decide) ?_
      refine z_iadd dX7_goRight_39 ?_
      refine z_aload_n dX7_goRight_40 rfl rfl ?_
      obtain ⟨a_5, ra_5, hf⟩ := z_rd_some hf
      refine zgR fl_X7_18 h0 (fun _ => rfl) ra_5 dX7_goRight_41 (fun ha_5 => ?_)
      refine z_iload dX7_goRight_44 rfl ?_
      refine z_iconst (v := 1) dX7_goRight_46 (by decide) ?_
      refine z_isub dX7_goRight_47 ?_
      obtain ⟨g_6, hf⟩ := z_ifs hf
      refine z_iald ha_5 g_6 rfl dX7_goRight_48 ?_
      refine z_mmin mm_X7_48 mm_smin mm_ini mm_cmin (by decide) (Nat.le_of_ble_eq_true rfl) dX7_goRight_49 ?_
      obtain ⟨v_7, M_8, c_9, hf⟩ := z_call_some hf
      refine z_cSi (t_X7_costAt h1 c_9) kw_X7_costAt lk_X7_54 rfl (by decide) rfl (Nat.le_of_ble_eq_true rfl) ⟨Nat.le_refl 0, Nat.le_refl 0⟩ dX7_goRight_52 ?_
      obtain ⟨g_10, hf⟩ := z_ifs hf
      obtain ⟨M_11, eM_11, hf⟩ := zl_some hf
      refine z_iast ha_2 g_10 eM_11 dX7_goRight_55 ?_
      obtain ⟨x4_12, ex4_12, hf⟩ := zl_some hf
      refine z_iinc' (lv' := [(4, .int x4_12), (0, .ref x0), (1, .ref x1), (2, .int x2), (3, .int x3)]) dX7_goRight_56 rfl (by decide) ex4_12 (by decide) rfl ?_
      refine z_goto (tgt := 11) dX7_goRight_59 (by decide) ?_
      refine zA.pick [(0, .ref x0), (1, .ref x1), (2, .int x2), (3, .int x3), (4, .int x4_12)] [1, 2, 3, 4, 0] rfl ?_
      exact ih x4_12 M_11 hf
noncomputable def f_X7_goRight (x0 : Nat) (x1 : Nat) (x2 : Int32) (x3 : Int32) (M : zM) : Option (Unit × zM) :=
  z_rd (M.2.1 x0 2) fun a_1 => if z_ix 0 (z_ln SH a_1) = true then zl (zu M.1 a_1 (0 : Int32).toNatClampNeg 1000000, M.2) fun M_3 => (f_X7_goRight_11 x0 x1 x2 x3 zF 1 M_3) else none
set_option maxHeartbeats 2000000 in
set_option maxRecDepth 20000 in
theorem t_X7_goRight {l : Launch} {x0 : Nat} {x1 : Nat} {x2 : Int32} {x3 : Int32} {M MO : zM} {v : Unit} (h0 : z_tm SH 7 x0) (h1 : z_tm SH 8 x1) (hf : f_X7_goRight x0 x1 x2 x3 M = some (v, MO)) : zMet l yX7_goRight cX7_goRight 5 none 2 0 0 [.ref x0, .ref x1, .int x2, .int x3] SH M (zDv SH MO) := by
  refine zMet.of (by decide +kernel) (Nat.le_of_ble_eq_true rfl) (Or.inl rfl) ?_
  show zA l yX7_goRight cX7_goRight 5 none 2 0 0 SH.length (zDv SH MO) 0 0 0 [(0, .ref x0), (1, .ref x1), (2, .int x2), (3, .int x3)] [] SH M
  unfold f_X7_goRight at hf
  refine z_aload_n dX7_goRight_0 rfl rfl ?_
  obtain ⟨a_1, ra_1, hf⟩ := z_rd_some hf
  refine zgR fl_X7_18 h0 (fun _ => rfl) ra_1 dX7_goRight_1 (fun ha_1 => ?_)
  refine z_iconst (v := 0) dX7_goRight_4 (by decide) ?_
  refine z_ldc (v := 1000000) dX7_goRight_5 cn_X7_27 ?_
  obtain ⟨g_2, hf⟩ := z_ifs hf
  obtain ⟨M_3, eM_3, hf⟩ := zl_some hf
  refine z_iast ha_1 g_2 eM_3 dX7_goRight_7 ?_
  refine z_iconst (v := 1) dX7_goRight_8 (by decide) ?_
  refine z_istore' (lv' := [(4, .int 1), (0, .ref x0), (1, .ref x1), (2, .int x2), (3, .int x3)]) dX7_goRight_9 (by decide) rfl rfl ?_
  refine zA.pick [(0, .ref x0), (1, .ref x1), (2, .int x2), (3, .int x3), (4, .int 1)] [1, 2, 3, 4, 0] rfl ?_
  exact t_X7_goRight_11 h0 h1 zF 1 M_3 hf
noncomputable def f_X7_let_73 (x0 : Nat) (x2 : Int32) (x4 : Int32) (M : zM) : Option (Int32 × zM) :=
  z_rd (M.2.1 x0 0) fun a_1 => z_call (f_X11_columnOf x2 M) fun v_2 M_3 => if z_ix v_2 (z_ln SH a_1) = true then z_call (f_X11_columnOf x2 M_3) fun v_6 M_7 => z_call (f_X7_aside x0 v_6 M_7) fun v_9 M_10 => zl ((z_min (M_3.1 a_1 (v_2 : Int32).toNatClampNeg) v_9)) fun x5_12 => (if x5_12 < 1000000 then (if x4 = 0 then some ((x5_12 / 100), M_10) else some ((x5_12 - x5_12 / 100 * 100), M_10)) else some ((-2), M_10)) else none
set_option maxHeartbeats 2000000 in
set_option maxRecDepth 20000 in
theorem t_X7_let_73 {l : Launch} {x0 : Nat} {x2 : Int32} {x4 : Int32} {M MO : zM} {v : Int32} (h0 : z_tm SH 7 x0) (hf : f_X7_let_73 x0 x2 x4 M = some (v, MO)) : zA l yX7_let cX7_let 6 (some .int) 3 0 0 SH.length (zDi SH v MO) 0 0 73 [(0, .ref x0), (2, .int x2), (4, .int x4)] [] SH M := by
  unfold f_X7_let_73 at hf
  refine z_aload_n dX7_let_73 rfl rfl ?_
  obtain ⟨a_1, ra_1, hf⟩ := z_rd_some hf
  refine zgR fl_X7_9 h0 (fun _ => rfl) ra_1 dX7_let_74 (fun ha_1 => ?_)
  refine z_iload_n dX7_let_77 rfl rfl ?_
  obtain ⟨v_2, M_3, c_4, hf⟩ := z_call_some hf
  refine z_cSi (t_X11_columnOf  c_4) kw_X11_columnOf lk_X7_42 rfl (by decide) rfl (Nat.le_of_ble_eq_true rfl) ⟨Nat.le_refl 0, Nat.le_refl 0⟩ dX7_let_78 ?_
  obtain ⟨g_5, hf⟩ := z_ifs hf
  refine z_iald ha_1 g_5 rfl dX7_let_81 ?_
  refine z_aload_n dX7_let_82 rfl rfl ?_
  refine z_iload_n dX7_let_83 rfl rfl ?_
  obtain ⟨v_6, M_7, c_8, hf⟩ := z_call_some hf
  refine z_cSi (t_X11_columnOf  c_8) kw_X11_columnOf lk_X7_42 rfl (by decide) rfl (Nat.le_of_ble_eq_true rfl) ⟨Nat.le_refl 0, Nat.le_refl 0⟩ dX7_let_84 ?_
  obtain ⟨v_9, M_10, c_11, hf⟩ := z_call_some hf
  refine z_cVi (t_X7_aside h0 c_11) kw_X7_aside lk_X7_45 h0 rfl (by decide) rfl (Nat.le_of_ble_eq_true rfl) ⟨Nat.le_refl 0, Nat.le_refl 0⟩ dX7_let_87 ?_
  refine z_mmin mm_X7_48 mm_smin mm_ini mm_cmin (by decide) (Nat.le_of_ble_eq_true rfl) dX7_let_90 ?_
  obtain ⟨x5_12, ex5_12, hf⟩ := zl_some hf
  refine z_istore' (lv' := [(5, .int x5_12), (0, .ref x0), (2, .int x2), (4, .int x4)]) dX7_let_93 (by decide) ex5_12 rfl ?_
  refine z_iload dX7_let_95 rfl ?_
  refine z_ldc (v := 1000000) dX7_let_97 cn_X7_27 ?_
  refine z_icmp_lt (tgt := 105) dX7_let_99 (by decide) (fun q_13 => ?_) (fun q_13 => ?_)
  · have hf := (if_pos q_13).symm.trans hf
    refine z_iload dX7_let_105 rfl ?_
    refine z_if_ne (tgt := 118) dX7_let_107 (by decide) (fun q_14 => ?_) (fun q_14 => ?_)
    · have hf := (if_neg q_14).symm.trans hf
      refine z_iload dX7_let_118 rfl ?_
      refine z_bipush (v := 100) dX7_let_120 (by decide) ?_
      refine z_irem dX7_let_122 (by decide) ?_
      obtain ⟨rfl, rfl⟩ := z_end hf
      exact z_iret ⟨rfl, rfl, rfl⟩ (Or.inl rfl) dX7_let_123
    · have hf := (if_pos q_14).symm.trans hf
      refine z_iload dX7_let_110 rfl ?_
      refine z_bipush (v := 100) dX7_let_112 (by decide) ?_
      refine z_idiv dX7_let_114 (by decide) ?_
      refine z_goto (tgt := 123) dX7_let_115 (by decide) ?_
      obtain ⟨rfl, rfl⟩ := z_end hf
      exact z_iret ⟨rfl, rfl, rfl⟩ (Or.inl rfl) dX7_let_123
  · have hf := (if_neg q_13).symm.trans hf
    refine z_bipush (v := (-2)) dX7_let_102 (by decide) ?_
    obtain ⟨rfl, rfl⟩ := z_end hf
    exact z_iret ⟨rfl, rfl, rfl⟩ (Or.inl rfl) dX7_let_104
noncomputable def f_X7_let_29 (x0 : Nat) (x1 : Nat) (x2 : Int32) (x3 : Int32) (x4 : Int32) : Nat → Int32 → zM → Option (Int32 × zM)
  | 0, _, _ => none
  | n + 1, x5, M =>
    (if x5 < 0 then (f_X7_let_73 x0 x2 x4 M) else z_call (f_X11_floorOf x2 M) fun v_2 M_3 => (if x5 < v_2 then (f_X7_let_73 x0 x2 x4 M_3) else z_call (f_X7_goDown x0 x1 x5 x3 M_3) fun v_6 M_7 => z_call (f_X7_goLeft x0 x1 x5 x3 M_7) fun v_9 M_10 => z_call (f_X7_goRight x0 x1 x5 x3 M_10) fun v_12 M_13 => zl (x5 + (-1)) fun x5_15 => (f_X7_let_29 x0 x1 x2 x3 x4 n x5_15 M_13)))
set_option maxHeartbeats 2000000 in
set_option maxRecDepth 20000 in
theorem t_X7_let_29 {l : Launch} {x0 : Nat} {x1 : Nat} {x2 : Int32} {x3 : Int32} {x4 : Int32} {MO : zM} {v : Int32} (h0 : z_tm SH 7 x0) (h1 : z_tm SH 8 x1) : ∀ (n : Nat) (x5 : Int32) (M : zM), f_X7_let_29 x0 x1 x2 x3 x4 n x5 M = some (v, MO) → zA l yX7_let cX7_let 6 (some .int) 3 0 0 SH.length (zDi SH v MO) 0 0 29 [(0, .ref x0), (1, .ref x1), (2, .int x2), (3, .int x3), (4, .int x4), (5, .int x5)] [] SH M := by
  intro n
  induction n with
  | zero =>
    intro x5 M hf
    rw [f_X7_let_29] at hf
    cases hf
  | succ n ih =>
    intro x5 M hf
    rw [f_X7_let_29] at hf
    refine z_iload dX7_let_29 rfl ?_
    refine z_if_lt (tgt := 73) dX7_let_31 (by decide) (fun q_1 => ?_) (fun q_1 => ?_)
    · have hf := (if_pos q_1).symm.trans hf
      refine zA.pick [(0, .ref x0), (2, .int x2), (4, .int x4)] [0, 2, 4] rfl ?_
      exact t_X7_let_73 h0 hf
    · have hf := (if_neg q_1).symm.trans hf
      refine z_iload dX7_let_34 rfl ?_
      refine z_iload_n dX7_let_36 rfl rfl ?_
      obtain ⟨v_2, M_3, c_4, hf⟩ := z_call_some hf
      refine z_cSi (t_X11_floorOf  c_4) kw_X11_floorOf lk_X7_28 rfl (by decide) rfl (Nat.le_of_ble_eq_true rfl) ⟨Nat.le_refl 0, Nat.le_refl 0⟩ dX7_let_37 ?_
      refine z_icmp_lt (tgt := 73) dX7_let_40 (by decide) (fun q_5 => ?_) (fun q_5 => ?_)
      · have hf := (if_pos q_5).symm.trans hf
        refine zA.pick [(0, .ref x0), (2, .int x2), (4, .int x4)] [0, 2, 4] rfl ?_
        exact t_X7_let_73 h0 hf
      · have hf := (if_neg q_5).symm.trans hf
        refine z_aload_n dX7_let_43 rfl rfl ?_
        refine z_aload_n dX7_let_44 rfl rfl ?_
        refine z_iload dX7_let_45 rfl ?_
        refine z_iload_n dX7_let_47 rfl rfl ?_
        obtain ⟨v_6, M_7, c_8, hf⟩ := z_call_some hf
        refine z_cVv (t_X7_goDown h0 h1 c_8) kw_X7_goDown lk_X7_32 h0 rfl (by decide) rfl (Nat.le_of_ble_eq_true rfl) ⟨Nat.le_refl 0, Nat.le_refl 0⟩ dX7_let_48 ?_
        refine z_aload_n dX7_let_51 rfl rfl ?_
        refine z_aload_n dX7_let_52 rfl rfl ?_
        refine z_iload dX7_let_53 rfl ?_
        refine z_iload_n dX7_let_55 rfl rfl ?_
        obtain ⟨v_9, M_10, c_11, hf⟩ := z_call_some hf
        refine z_cVv (t_X7_goLeft h0 h1 c_11) kw_X7_goLeft lk_X7_36 h0 rfl (by decide) rfl (Nat.le_of_ble_eq_true rfl) ⟨Nat.le_refl 0, Nat.le_refl 0⟩ dX7_let_56 ?_
        refine z_aload_n dX7_let_59 rfl rfl ?_
        refine z_aload_n dX7_let_60 rfl rfl ?_
        refine z_iload dX7_let_61 rfl ?_
        refine z_iload_n dX7_let_63 rfl rfl ?_
        obtain ⟨v_12, M_13, c_14, hf⟩ := z_call_some hf
        refine z_cVv (t_X7_goRight h0 h1 c_14) kw_X7_goRight lk_X7_39 h0 rfl (by decide) rfl (Nat.le_of_ble_eq_true rfl) ⟨Nat.le_refl 0, Nat.le_refl 0⟩ dX7_let_64 ?_
        obtain ⟨x5_15, ex5_15, hf⟩ := zl_some hf
        refine z_iinc' (lv' := [(5, .int x5_15), (0, .ref x0), (1, .ref x1), (2, .int x2), (3, .int x3), (4, .int x4)]) dX7_let_67 rfl (by decide) ex5_15 (by decide) rfl ?_
        refine z_goto (tgt := 29) dX7_let_70 (by decide) ?_
        refine zA.pick [(0, .ref x0), (1, .ref x1), (2, .int x2), (3, .int x3), (4, .int x4), (5, .int x5_15)] [1, 2, 3, 4, 5, 0] rfl ?_
        exact ih x5_15 M_13 hf
noncomputable def f_X7_let (x0 : Nat) (x1 : Nat) (x2 : Int32) (x3 : Int32) (x4 : Int32) (M : zM) : Option (Int32 × zM) :=
  z_rd (M.2.1 x0 0) fun a_1 => z_call (f_J7_fill_53178 a_1 0 M) fun v_2 M_3 => z_rd (M_3.2.1 x0 1) fun a_5 => z_call (f_J7_fill_53178 a_5 1000000 M_3) fun v_6 M_7 => z_rd (M_7.2.1 x0 2) fun a_9 => z_call (f_J7_fill_53178 a_9 1000000 M_7) fun v_10 M_11 => (f_X7_let_29 x0 x1 x2 x3 x4 zF 5 M_11)
set_option maxHeartbeats 2000000 in
set_option maxRecDepth 20000 in
theorem t_X7_let {l : Launch} {x0 : Nat} {x1 : Nat} {x2 : Int32} {x3 : Int32} {x4 : Int32} {M MO : zM} {v : Int32} (h0 : z_tm SH 7 x0) (h1 : z_tm SH 8 x1) (hf : f_X7_let x0 x1 x2 x3 x4 M = some (v, MO)) : zMet l yX7_let cX7_let 6 (some .int) 3 0 0 [.ref x0, .ref x1, .int x2, .int x3, .int x4] SH M (zDi SH v MO) := by
  refine zMet.of (by decide +kernel) (Nat.le_of_ble_eq_true rfl) (Or.inr (Or.inl rfl)) ?_
  show zA l yX7_let cX7_let 6 (some .int) 3 0 0 SH.length (zDi SH v MO) 0 0 0 [(0, .ref x0), (1, .ref x1), (2, .int x2), (3, .int x3), (4, .int x4)] [] SH M
  unfold f_X7_let at hf
  refine z_aload_n dX7_let_0 rfl rfl ?_
  obtain ⟨a_1, ra_1, hf⟩ := z_rd_some hf
  refine zgR fl_X7_9 h0 (fun _ => rfl) ra_1 dX7_let_1 (fun ha_1 => ?_)
  refine z_iconst (v := 0) dX7_let_4 (by decide) ?_
  obtain ⟨v_2, M_3, c_4, hf⟩ := z_call_some hf
  refine z_cSv (t_J7_fill_53178 ha_1 c_4) kw_J7_fill_53178 lk_X7_21 rfl (by decide) rfl (Nat.le_of_ble_eq_true rfl) ⟨Nat.le_refl 0, Nat.le_refl 0⟩ dX7_let_5 ?_
  refine z_aload_n dX7_let_8 rfl rfl ?_
  obtain ⟨a_5, ra_5, hf⟩ := z_rd_some hf
  refine zgR fl_X7_15 h0 (fun _ => rfl) ra_5 dX7_let_9 (fun ha_5 => ?_)
  refine z_ldc (v := 1000000) dX7_let_12 cn_X7_27 ?_
  obtain ⟨v_6, M_7, c_8, hf⟩ := z_call_some hf
  refine z_cSv (t_J7_fill_53178 ha_5 c_8) kw_J7_fill_53178 lk_X7_21 rfl (by decide) rfl (Nat.le_of_ble_eq_true rfl) ⟨Nat.le_refl 0, Nat.le_refl 0⟩ dX7_let_14 ?_
  refine z_aload_n dX7_let_17 rfl rfl ?_
  obtain ⟨a_9, ra_9, hf⟩ := z_rd_some hf
  refine zgR fl_X7_18 h0 (fun _ => rfl) ra_9 dX7_let_18 (fun ha_9 => ?_)
  refine z_ldc (v := 1000000) dX7_let_21 cn_X7_27 ?_
  obtain ⟨v_10, M_11, c_12, hf⟩ := z_call_some hf
  refine z_cSv (t_J7_fill_53178 ha_9 c_12) kw_J7_fill_53178 lk_X7_21 rfl (by decide) rfl (Nat.le_of_ble_eq_true rfl) ⟨Nat.le_refl 0, Nat.le_refl 0⟩ dX7_let_23 ?_
  refine z_iconst (v := 5) dX7_let_26 (by decide) ?_
  refine z_istore' (lv' := [(5, .int 5), (0, .ref x0), (1, .ref x1), (2, .int x2), (3, .int x3), (4, .int x4)]) dX7_let_27 (by decide) rfl rfl ?_
  refine zA.pick [(0, .ref x0), (1, .ref x1), (2, .int x2), (3, .int x3), (4, .int x4), (5, .int 5)] [1, 2, 3, 4, 5, 0] rfl ?_
  exact t_X7_let_29 h0 h1 zF 5 M_11 hf
noncomputable def f_X1_fill_100 (c_X1_fill : Nat → Int32 → Int32 → Int64 → zM → Option (Unit × zM)) (x0 : Nat) (x1 : Int32) (x2 : Int32) (x3 : Int64) (k43 : Int32 → zM → Option (Unit × zM)) (x5 : Int32) (M : zM) : Option (Unit × zM) :=
  zl (x5 + 1) fun x5_1 => (k43 x5_1 M)
set_option maxHeartbeats 2000000 in
set_option maxRecDepth 20000 in
theorem t_X1_fill_100 {l : Launch} {dd : Nat} {c_X1_fill : Nat → Int32 → Int32 → Int64 → zM → Option (Unit × zM)} {x0 : Nat} {x1 : Int32} {x2 : Int32} {x3 : Int64} {k43 : Int32 → zM → Option (Unit × zM)} {x5 : Int32} {M MO : zM} {v : Unit} (hc_X1_fill : ∀ (x0 : Nat) (x1 : Int32) (x2 : Int32) (x3 : Int64) (M : zM) (v : Unit) (MO : zM), z_tm SH 1 x0 → c_X1_fill x0 x1 x2 x3 M = some (v, MO) → zMet l yX1_fill cX1_fill 6 none (dd + 8) 0 0 [.ref x0, .int x1, .int x2, .long x3] SH M (zDv SH MO)) (h0 : z_tm SH 1 x0) (hk43 : ∀ (x5 : Int32) (M : zM), k43 x5 M = some (v, MO) → zA l yX1_fill cX1_fill 6 none (dd + 9) 0 0 SH.length (zDv SH MO) 0 0 43 [(0, .ref x0), (1, .int x1), (2, .int x2), (3, .long x3), (5, .int x5)] [] SH M) (hf : f_X1_fill_100 c_X1_fill x0 x1 x2 x3 k43 x5 M = some (v, MO)) : zA l yX1_fill cX1_fill 6 none (dd + 9) 0 0 SH.length (zDv SH MO) 0 0 100 [(0, .ref x0), (1, .int x1), (2, .int x2), (3, .long x3), (5, .int x5)] [] SH M := by
  unfold f_X1_fill_100 at hf
  obtain ⟨x5_1, ex5_1, hf⟩ := zl_some hf
  refine z_iinc' (lv' := [(5, .int x5_1), (0, .ref x0), (1, .int x1), (2, .int x2), (3, .long x3)]) dX1_fill_100 rfl (by decide) ex5_1 (by decide) rfl ?_
  refine z_goto (tgt := 43) dX1_fill_103 (by decide) ?_
  refine zA.pick [(0, .ref x0), (1, .int x1), (2, .int x2), (3, .long x3), (5, .int x5_1)] [1, 2, 3, 4, 0] rfl ?_
  exact hk43 x5_1 M hf
noncomputable def f_X1_fill_43 (c_X1_fill : Nat → Int32 → Int32 → Int64 → zM → Option (Unit × zM)) (x0 : Nat) (x1 : Int32) (x2 : Int32) (x3 : Int64) : Nat → Int32 → zM → Option (Unit × zM)
  | 0, _, _ => none
  | n + 1, x5, M =>
    (if (M.1 x0 4) ≤ x5 then some ((), M) else (if (((x2 : Int32) >>> (x5 &&& 31)) &&& 1) = 0 then z_rd (M.2.1 x0 2) fun a_3 => if z_ix x1 (z_ln SH a_3) = true then zl (zu M.1 a_3 (x1 : Int32).toNatClampNeg x5, M.2) fun M_5 => z_rd (M_5.2.1 x0 0) fun a_6 => if z_ix x5 (z_ln SH a_6) = true then z_rd (M_5.2.1 x0 1) fun a_8 => if z_ix x1 (z_ln SH a_8) = true then z_call (c_X1_fill x0 (x1 + 1) (x2 ||| ((1 : Int32) <<< (x5 &&& 31))) (x3 + (((M_5.1 a_6 (x5 : Int32).toNatClampNeg) : Int32).toInt64 * ((M_5.1 a_8 (x1 : Int32).toNatClampNeg) : Int32).toInt64)) M_5) fun v_10 M_11 => (f_X1_fill_100 c_X1_fill x0 x1 x2 x3 (f_X1_fill_43 c_X1_fill x0 x1 x2 x3 n) x5 M_11) else none else none else none else (f_X1_fill_100 c_X1_fill x0 x1 x2 x3 (f_X1_fill_43 c_X1_fill x0 x1 x2 x3 n) x5 M)))
set_option maxHeartbeats 2000000 in
set_option maxRecDepth 20000 in
theorem t_X1_fill_43 {l : Launch} {dd : Nat} {c_X1_fill : Nat → Int32 → Int32 → Int64 → zM → Option (Unit × zM)} {x0 : Nat} {x1 : Int32} {x2 : Int32} {x3 : Int64} {MO : zM} {v : Unit} (hc_X1_fill : ∀ (x0 : Nat) (x1 : Int32) (x2 : Int32) (x3 : Int64) (M : zM) (v : Unit) (MO : zM), z_tm SH 1 x0 → c_X1_fill x0 x1 x2 x3 M = some (v, MO) → zMet l yX1_fill cX1_fill 6 none (dd + 8) 0 0 [.ref x0, .int x1, .int x2, .long x3] SH M (zDv SH MO)) (h0 : z_tm SH 1 x0) : ∀ (n : Nat) (x5 : Int32) (M : zM), f_X1_fill_43 c_X1_fill x0 x1 x2 x3 n x5 M = some (v, MO) → zA l yX1_fill cX1_fill 6 none (dd + 9) 0 0 SH.length (zDv SH MO) 0 0 43 [(0, .ref x0), (1, .int x1), (2, .int x2), (3, .long x3), (5, .int x5)] [] SH M := by
  intro n
  induction n with
  | zero =>
    intro x5 M hf
    rw [f_X1_fill_43] at hf
    cases hf
  | succ n ih =>
    intro x5 M hf
    rw [f_X1_fill_43] at hf
    refine z_iload dX1_fill_43 rfl ?_
    refine z_aload_n dX1_fill_45 rfl rfl ?_
    refine zgI fl_X1_30 h0 (fun _ => rfl) dX1_fill_46 ?_
    refine z_icmp_ge (tgt := 106) dX1_fill_49 (by decide) (fun q_1 => ?_) (fun q_1 => ?_)
    · have hf := (if_pos q_1).symm.trans hf
      obtain ⟨rfl, rfl⟩ := z_end hf
      exact z_vret ⟨rfl, rfl, rfl⟩ rfl dX1_fill_106
    · have hf := (if_neg q_1).symm.trans hf
      refine z_iload_n dX1_fill_52 rfl rfl ?_
      refine z_iload dX1_fill_53 rfl ?_
      refine z_ishr dX1_fill_55 ?_
      refine z_iconst (v := 1) dX1_fill_56 (by decide) ?_
      refine z_iand dX1_fill_57 ?_
      refine z_if_ne (tgt := 100) dX1_fill_58 (by decide) (fun q_2 => ?_) (fun q_2 => ?_)
      · have hf := (if_neg q_2).symm.trans hf
        exact t_X1_fill_100 hc_X1_fill h0 ih hf
      · have hf := (if_pos q_2).symm.trans hf
        refine z_aload_n dX1_fill_61 rfl rfl ?_
        obtain ⟨a_3, ra_3, hf⟩ := z_rd_some hf
        refine zgR fl_X1_18 h0 (fun _ => rfl) ra_3 dX1_fill_62 (fun ha_3 => ?_)
        refine z_iload_n dX1_fill_65 rfl rfl ?_
        refine z_iload dX1_fill_66 rfl ?_
        obtain ⟨g_4, hf⟩ := z_ifs hf
        obtain ⟨M_5, eM_5, hf⟩ := zl_some hf
        refine z_iast ha_3 g_4 eM_5 dX1_fill_68 ?_
        refine z_aload_n dX1_fill_69 rfl rfl ?_
        refine z_iload_n dX1_fill_70 rfl rfl ?_
        refine z_iconst (v := 1) dX1_fill_71 (by decide) ?_
        refine z_iadd dX1_fill_72 ?_
        refine z_iload_n dX1_fill_73 rfl rfl ?_
        refine z_iconst (v := 1) dX1_fill_74 (by decide) ?_
        refine z_iload dX1_fill_75 rfl ?_
        refine z_ishl dX1_fill_77 ?_
        refine z_ior dX1_fill_78 ?_
        refine z_lload_n dX1_fill_79 rfl rfl ?_
        refine z_aload_n dX1_fill_80 rfl rfl ?_
        obtain ⟨a_6, ra_6, hf⟩ := z_rd_some hf
        refine zgR fl_X1_9 h0 (fun _ => rfl) ra_6 dX1_fill_81 (fun ha_6 => ?_)
        refine z_iload dX1_fill_84 rfl ?_
        obtain ⟨g_7, hf⟩ := z_ifs hf
        refine z_iald ha_6 g_7 rfl dX1_fill_86 ?_
        refine z_i2l dX1_fill_87 ?_
        refine z_aload_n dX1_fill_88 rfl rfl ?_
        obtain ⟨a_8, ra_8, hf⟩ := z_rd_some hf
        refine zgR fl_X1_15 h0 (fun _ => rfl) ra_8 dX1_fill_89 (fun ha_8 => ?_)
        refine z_iload_n dX1_fill_92 rfl rfl ?_
        obtain ⟨g_9, hf⟩ := z_ifs hf
        refine z_iald ha_8 g_9 rfl dX1_fill_93 ?_
        refine z_i2l dX1_fill_94 ?_
        refine z_lmul dX1_fill_95 ?_
        refine z_ladd dX1_fill_96 ?_
        obtain ⟨v_10, M_11, c_12, hf⟩ := z_call_some hf
        refine z_cVv (hc_X1_fill _ _ _ _ _ _ _ h0 c_12) kw_X1_fill lk_X1_49 h0 rfl (by omega) rfl (Nat.le_of_ble_eq_true rfl) ⟨Nat.le_refl 0, Nat.le_refl 0⟩ dX1_fill_97 ?_
        exact t_X1_fill_100 hc_X1_fill h0 ih hf
noncomputable def f_X1_fill (c_X1_fill : Nat → Int32 → Int32 → Int64 → zM → Option (Unit × zM)) (x0 : Nat) (x1 : Int32) (x2 : Int32) (x3 : Int64) (M : zM) : Option (Unit × zM) :=
  (if x1 < (M.1 x0 4) then (f_X1_fill_43 c_X1_fill x0 x1 x2 x3 zF 0 M) else (if 0 ≤ (lg_cmp x3 (M.2.2 x0 5)) then some ((), M) else zl (M.1, M.2.1, zu M.2.2 x0 5 x3) fun M_3 => z_rd (M_3.2.1 x0 2) fun a_4 => z_rd (M_3.2.1 x0 3) fun a_5 => if ¬ (((M_3.1 x0 4) : Int32) < 0) then if (0 : Int32).toNatClampNeg + ((M_3.1 x0 4) : Int32).toNatClampNeg ≤ z_ln SH a_4 then if (0 : Int32).toNatClampNeg + ((M_3.1 x0 4) : Int32).toNatClampNeg ≤ z_ln SH a_5 then zl (va_up M_3.1 a_5 (va_cpy (M_3.1 a_4) (M_3.1 a_5) (0 : Int32).toNatClampNeg (0 : Int32).toNatClampNeg ((M_3.1 x0 4) : Int32).toNatClampNeg), M_3.2) fun M_9 => some ((), M_9) else none else none else none))
set_option maxHeartbeats 2000000 in
set_option maxRecDepth 20000 in
theorem t_X1_fill {l : Launch} {dd : Nat} {c_X1_fill : Nat → Int32 → Int32 → Int64 → zM → Option (Unit × zM)} {x0 : Nat} {x1 : Int32} {x2 : Int32} {x3 : Int64} {M MO : zM} {v : Unit} (hc_X1_fill : ∀ (x0 : Nat) (x1 : Int32) (x2 : Int32) (x3 : Int64) (M : zM) (v : Unit) (MO : zM), z_tm SH 1 x0 → c_X1_fill x0 x1 x2 x3 M = some (v, MO) → zMet l yX1_fill cX1_fill 6 none (dd + 8) 0 0 [.ref x0, .int x1, .int x2, .long x3] SH M (zDv SH MO)) (h0 : z_tm SH 1 x0) (hf : f_X1_fill c_X1_fill x0 x1 x2 x3 M = some (v, MO)) : zMet l yX1_fill cX1_fill 6 none (dd + 9) 0 0 [.ref x0, .int x1, .int x2, .long x3] SH M (zDv SH MO) := by
  refine zMet.of (by decide +kernel) (Nat.le_of_ble_eq_true rfl) (Or.inl rfl) ?_
  show zA l yX1_fill cX1_fill 6 none (dd + 9) 0 0 SH.length (zDv SH MO) 0 0 0 [(0, .ref x0), (1, .int x1), (2, .int x2), (3, .long x3)] [] SH M
  unfold f_X1_fill at hf
  refine z_iload_n dX1_fill_0 rfl rfl ?_
  refine z_aload_n dX1_fill_1 rfl rfl ?_
  refine zgI fl_X1_30 h0 (fun _ => rfl) dX1_fill_2 ?_
  refine z_icmp_lt (tgt := 40) dX1_fill_5 (by decide) (fun q_1 => ?_) (fun q_1 => ?_)
  · have hf := (if_pos q_1).symm.trans hf
    refine z_iconst (v := 0) dX1_fill_40 (by decide) ?_
    refine z_istore' (lv' := [(5, .int 0), (0, .ref x0), (1, .int x1), (2, .int x2), (3, .long x3)]) dX1_fill_41 (by decide) rfl rfl ?_
    refine zA.pick [(0, .ref x0), (1, .int x1), (2, .int x2), (3, .long x3), (5, .int 0)] [1, 2, 3, 4, 0] rfl ?_
    exact t_X1_fill_43 hc_X1_fill h0 zF 0 M hf
  · have hf := (if_neg q_1).symm.trans hf
    refine z_lload_n dX1_fill_8 rfl rfl ?_
    refine z_aload_n dX1_fill_9 rfl rfl ?_
    refine zgL fl_X1_45 h0 rfl dX1_fill_10 ?_
    refine z_lcmp dX1_fill_13 ?_
    refine z_if_ge (tgt := 39) dX1_fill_14 (by decide) (fun q_2 => ?_) (fun q_2 => ?_)
    · have hf := (if_pos q_2).symm.trans hf
      obtain ⟨rfl, rfl⟩ := z_end hf
      exact z_vret ⟨rfl, rfl, rfl⟩ rfl dX1_fill_39
    · have hf := (if_neg q_2).symm.trans hf
      refine z_aload_n dX1_fill_17 rfl rfl ?_
      refine z_lload_n dX1_fill_18 rfl rfl ?_
      obtain ⟨M_3, eM_3, hf⟩ := zl_some hf
      refine zpL fl_X1_45 h0 rfl rfl eM_3 dX1_fill_19 ?_
      refine z_aload_n dX1_fill_22 rfl rfl ?_
      obtain ⟨a_4, ra_4, hf⟩ := z_rd_some hf
      refine zgR fl_X1_18 h0 (fun _ => rfl) ra_4 dX1_fill_23 (fun ha_4 => ?_)
      refine z_iconst (v := 0) dX1_fill_26 (by decide) ?_
      refine z_aload_n dX1_fill_27 rfl rfl ?_
      obtain ⟨a_5, ra_5, hf⟩ := z_rd_some hf
      refine zgR fl_X1_21 h0 (fun _ => rfl) ra_5 dX1_fill_28 (fun ha_5 => ?_)
      refine z_iconst (v := 0) dX1_fill_31 (by decide) ?_
      refine z_aload_n dX1_fill_32 rfl rfl ?_
      refine zgI fl_X1_30 h0 (fun _ => rfl) dX1_fill_33 ?_
      obtain ⟨g_6, hf⟩ := z_ifs hf
      obtain ⟨g_7, hf⟩ := z_ifs hf
      obtain ⟨g_8, hf⟩ := z_ifs hf
      obtain ⟨M_9, eM_9, hf⟩ := zl_some hf
      refine z_copy ac_X1_53 ac_nat ac_sta ac_ini ha_4 ha_5 (by decide) (by decide) g_6 g_7 g_8 (by omega) (Nat.le_of_ble_eq_true rfl) eM_9 dX1_fill_36 ?_
      obtain ⟨rfl, rfl⟩ := z_end hf
      exact z_vret ⟨rfl, rfl, rfl⟩ rfl dX1_fill_39
noncomputable def g_X1 : Nat → (Nat → Int32 → Int32 → Int64 → zM → Option (Unit × zM))
  | 0 => (fun _ _ _ _ _ => none)
  | n + 1 => (f_X1_fill (g_X1 n))
set_option maxHeartbeats 2000000 in
set_option maxRecDepth 20000 in
theorem tg_X1 {l : Launch} : ∀ n : Nat, (∀ (x0 : Nat) (x1 : Int32) (x2 : Int32) (x3 : Int64) (M : zM) (v : Unit) (MO : zM), z_tm SH 1 x0 → (g_X1 n) x0 x1 x2 x3 M = some (v, MO) → zMet l yX1_fill cX1_fill 6 none (n + 8) 0 0 [.ref x0, .int x1, .int x2, .long x3] SH M (zDv SH MO)) := by
  intro n
  induction n with
  | zero => exact (fun x0 x1 x2 x3 M v MO h0 hf => by cases hf)
  | succ n ih =>
    have i0 := ih
    exact (fun x0 x1 x2 x3 M v MO h0 hf => t_X1_fill i0 h0 hf)
noncomputable def f_X1_fill_r : Nat → Int32 → Int32 → Int64 → zM → Option (Unit × zM) := (g_X1 10)
theorem t_X1_fill_r {l : Launch} {x0 : Nat} {x1 : Int32} {x2 : Int32} {x3 : Int64} {M MO : zM} {v : Unit} (h0 : z_tm SH 1 x0) (hf : f_X1_fill_r x0 x1 x2 x3 M = some (v, MO)) : zMet l yX1_fill cX1_fill 6 none 18 0 0 [.ref x0, .int x1, .int x2, .long x3] SH M (zDv SH MO) := (tg_X1 10) x0 x1 x2 x3 M v MO h0 hf
