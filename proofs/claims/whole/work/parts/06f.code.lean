noncomputable def f_X12_nextWho_80 (x0 : Nat) : Nat → Int32 → Int32 → zM → Option (Int32 × zM)
  | 0, _, _, _ => none
  | n + 1, x4, x5, M =>
    (if x5 ≤ x4 then some (1, M) else z_call (f_X12_changesWho x0 x4 x5 M) fun v_2 M_3 => zl (x4 + 1) fun x4_5 => zl (x5 + (-1)) fun x5_6 => (f_X12_nextWho_80 x0 n x4_5 x5_6 M_3))
set_option maxHeartbeats 2000000 in
set_option maxRecDepth 20000 in
theorem t_X12_nextWho_80 {l : Launch} {x0 : Nat} {MO : zM} {v : Int32} (h0 : z_tm SH 11 x0) : ∀ (n : Nat) (x4 : Int32) (x5 : Int32) (M : zM), f_X12_nextWho_80 x0 n x4 x5 M = some (v, MO) → zA l yX12_nextWho cX12_nextWho 6 (some .boolean) 2 0 0 SH.length (zDi SH v MO) 0 0 80 [(0, .ref x0), (4, .int x4), (5, .int x5)] [] SH M := by
  intro n
  induction n with
  | zero =>
    intro x4 x5 M hf
    rw [f_X12_nextWho_80] at hf
    cases hf
  | succ n ih =>
    intro x4 x5 M hf
    rw [f_X12_nextWho_80] at hf
    refine z_iload dX12_nextWho_80 rfl ?_
    refine z_iload dX12_nextWho_82 rfl ?_
    refine z_icmp_ge (tgt := 104) dX12_nextWho_84 (by decide) (fun q_1 => ?_) (fun q_1 => ?_)
    · have hf := (if_pos q_1).symm.trans hf
      refine z_iconst (v := 1) dX12_nextWho_104 (by decide) ?_
      obtain ⟨rfl, rfl⟩ := z_end hf
      exact z_iret ⟨rfl, rfl, rfl⟩ (Or.inr ⟨rfl, (Or.inr rfl)⟩) dX12_nextWho_105
    · have hf := (if_neg q_1).symm.trans hf
      refine z_aload_n dX12_nextWho_87 rfl rfl ?_
      refine z_iload dX12_nextWho_88 rfl ?_
      refine z_iload dX12_nextWho_90 rfl ?_
      obtain ⟨v_2, M_3, c_4, hf⟩ := z_call_some hf
      refine z_cVv (t_X12_changesWho h0 c_4) kw_X12_changesWho lk_X12_333 h0 rfl (by decide) rfl (Nat.le_of_ble_eq_true rfl) ⟨Nat.le_refl 0, Nat.le_refl 0⟩ dX12_nextWho_92 ?_
      obtain ⟨x4_5, ex4_5, hf⟩ := zl_some hf
      refine z_iinc' (lv' := [(4, .int x4_5), (0, .ref x0), (5, .int x5)]) dX12_nextWho_95 rfl (by decide) ex4_5 (by decide) rfl ?_
      obtain ⟨x5_6, ex5_6, hf⟩ := zl_some hf
      refine z_iinc' (lv' := [(5, .int x5_6), (4, .int x4_5), (0, .ref x0)]) dX12_nextWho_98 rfl (by decide) ex5_6 (by decide) rfl ?_
      refine z_goto (tgt := 80) dX12_nextWho_101 (by decide) ?_
      refine zA.pick [(0, .ref x0), (4, .int x4_5), (5, .int x5_6)] [2, 1, 0] rfl ?_
      exact ih x4_5 x5_6 M_3 hf
noncomputable def f_X12_nextWho_42 (x0 : Nat) (x1 : Int32) : Nat → Int32 → Int32 → zM → Option (Int32 × zM)
  | 0, _, _, _ => none
  | n + 1, x2, x3, M =>
    z_rd (M.2.1 x0 35) fun a_1 => if z_ix x3 (z_ln SH a_1) = true then z_rd (M.2.1 x0 35) fun a_3 => if z_ix x2 (z_ln SH a_3) = true then (if (M.1 a_3 (x2 : Int32).toNatClampNeg) ≤ (M.1 a_1 (x3 : Int32).toNatClampNeg) then z_call (f_X12_changesWho x0 x2 x3 M) fun v_6 M_7 => zl ((x2 + 1)) fun x4_9 => zl ((x1 - 1)) fun x5_10 => (f_X12_nextWho_80 x0 zF x4_9 x5_10 M_7) else zl ((x3 - 1)) fun x3_11 => (f_X12_nextWho_42 x0 x1 n x2 x3_11 M)) else none else none
set_option maxHeartbeats 2000000 in
set_option maxRecDepth 20000 in
theorem t_X12_nextWho_42 {l : Launch} {x0 : Nat} {x1 : Int32} {MO : zM} {v : Int32} (h0 : z_tm SH 11 x0) : ∀ (n : Nat) (x2 : Int32) (x3 : Int32) (M : zM), f_X12_nextWho_42 x0 x1 n x2 x3 M = some (v, MO) → zA l yX12_nextWho cX12_nextWho 6 (some .boolean) 2 0 0 SH.length (zDi SH v MO) 0 0 42 [(0, .ref x0), (1, .int x1), (2, .int x2), (3, .int x3)] [] SH M := by
  intro n
  induction n with
  | zero =>
    intro x2 x3 M hf
    rw [f_X12_nextWho_42] at hf
    cases hf
  | succ n ih =>
    intro x2 x3 M hf
    rw [f_X12_nextWho_42] at hf
    refine z_aload_n dX12_nextWho_42 rfl rfl ?_
    obtain ⟨a_1, ra_1, hf⟩ := z_rd_some hf
    refine zgR fl_X12_75 h0 (fun _ => rfl) ra_1 dX12_nextWho_43 (fun ha_1 => ?_)
    refine z_iload_n dX12_nextWho_46 rfl rfl ?_
    obtain ⟨g_2, hf⟩ := z_ifs hf
    refine z_iald ha_1 g_2 rfl dX12_nextWho_47 ?_
    refine z_aload_n dX12_nextWho_48 rfl rfl ?_
    obtain ⟨a_3, ra_3, hf⟩ := z_rd_some hf
    refine zgR fl_X12_75 h0 (fun _ => rfl) ra_3 dX12_nextWho_49 (fun ha_3 => ?_)
    refine z_iload_n dX12_nextWho_52 rfl rfl ?_
    obtain ⟨g_4, hf⟩ := z_ifs hf
    refine z_iald ha_3 g_4 rfl dX12_nextWho_53 ?_
    refine z_icmp_ge (tgt := 64) dX12_nextWho_54 (by decide) (fun q_5 => ?_) (fun q_5 => ?_)
    · have hf := (if_pos q_5).symm.trans hf
      refine z_aload_n dX12_nextWho_64 rfl rfl ?_
      refine z_iload_n dX12_nextWho_65 rfl rfl ?_
      refine z_iload_n dX12_nextWho_66 rfl rfl ?_
      obtain ⟨v_6, M_7, c_8, hf⟩ := z_call_some hf
      refine z_cVv (t_X12_changesWho h0 c_8) kw_X12_changesWho lk_X12_333 h0 rfl (by decide) rfl (Nat.le_of_ble_eq_true rfl) ⟨Nat.le_refl 0, Nat.le_refl 0⟩ dX12_nextWho_67 ?_
      refine z_iload_n dX12_nextWho_70 rfl rfl ?_
      refine z_iconst (v := 1) dX12_nextWho_71 (by decide) ?_
      refine z_iadd dX12_nextWho_72 ?_
      obtain ⟨x4_9, ex4_9, hf⟩ := zl_some hf
      refine z_istore' (lv' := [(4, .int x4_9), (0, .ref x0), (1, .int x1), (2, .int x2), (3, .int x3)]) dX12_nextWho_73 (by decide) ex4_9 rfl ?_
      refine z_iload_n dX12_nextWho_75 rfl rfl ?_
      refine z_iconst (v := 1) dX12_nextWho_76 (by decide) ?_
      refine z_isub dX12_nextWho_77 ?_
      obtain ⟨x5_10, ex5_10, hf⟩ := zl_some hf
      refine z_istore' (lv' := [(5, .int x5_10), (4, .int x4_9), (0, .ref x0), (1, .int x1), (2, .int x2), (3, .int x3)]) dX12_nextWho_78 (by decide) ex5_10 rfl ?_
      refine zA.pick [(0, .ref x0), (4, .int x4_9), (5, .int x5_10)] [2, 1, 0] rfl ?_
      exact t_X12_nextWho_80 h0 zF x4_9 x5_10 M_7 hf
    · have hf := (if_neg q_5).symm.trans hf
      refine z_iload_n dX12_nextWho_57 rfl rfl ?_
      refine z_iconst (v := 1) dX12_nextWho_58 (by decide) ?_
      refine z_isub dX12_nextWho_59 ?_
      obtain ⟨x3_11, ex3_11, hf⟩ := zl_some hf
      refine z_istore_n' (lv' := [(3, .int x3_11), (0, .ref x0), (1, .int x1), (2, .int x2)]) rfl dX12_nextWho_60 (by decide) ex3_11 rfl ?_
      refine z_goto (tgt := 42) dX12_nextWho_61 (by decide) ?_
      refine zA.pick [(0, .ref x0), (1, .int x1), (2, .int x2), (3, .int x3_11)] [1, 2, 3, 0] rfl ?_
      exact ih x2 x3_11 M hf
noncomputable def f_X12_nextWho_32 (x0 : Nat) (x1 : Int32) (x2 : Int32) (M : zM) : Option (Int32 × zM) :=
  (if 0 ≤ x2 then zl ((x1 - 1)) fun x3_2 => (f_X12_nextWho_42 x0 x1 zF x2 x3_2 M) else some (0, M))
set_option maxHeartbeats 2000000 in
set_option maxRecDepth 20000 in
theorem t_X12_nextWho_32 {l : Launch} {x0 : Nat} {x1 : Int32} {x2 : Int32} {M MO : zM} {v : Int32} (h0 : z_tm SH 11 x0) (hf : f_X12_nextWho_32 x0 x1 x2 M = some (v, MO)) : zA l yX12_nextWho cX12_nextWho 6 (some .boolean) 2 0 0 SH.length (zDi SH v MO) 0 0 32 [(0, .ref x0), (1, .int x1), (2, .int x2)] [] SH M := by
  unfold f_X12_nextWho_32 at hf
  refine z_iload_n dX12_nextWho_32 rfl rfl ?_
  refine z_if_ge (tgt := 38) dX12_nextWho_33 (by decide) (fun q_1 => ?_) (fun q_1 => ?_)
  · have hf := (if_pos q_1).symm.trans hf
    refine z_iload_n dX12_nextWho_38 rfl rfl ?_
    refine z_iconst (v := 1) dX12_nextWho_39 (by decide) ?_
    refine z_isub dX12_nextWho_40 ?_
    obtain ⟨x3_2, ex3_2, hf⟩ := zl_some hf
    refine z_istore_n' (lv' := [(3, .int x3_2), (0, .ref x0), (1, .int x1), (2, .int x2)]) rfl dX12_nextWho_41 (by decide) ex3_2 rfl ?_
    refine zA.pick [(0, .ref x0), (1, .int x1), (2, .int x2), (3, .int x3_2)] [1, 2, 3, 0] rfl ?_
    exact t_X12_nextWho_42 h0 zF x2 x3_2 M hf
  · have hf := (if_neg q_1).symm.trans hf
    refine z_iconst (v := 0) dX12_nextWho_36 (by decide) ?_
    obtain ⟨rfl, rfl⟩ := z_end hf
    exact z_iret ⟨rfl, rfl, rfl⟩ (Or.inr ⟨rfl, (Or.inl rfl)⟩) dX12_nextWho_37
noncomputable def f_X12_nextWho_4 (x0 : Nat) (x1 : Int32) : Nat → Int32 → zM → Option (Int32 × zM)
  | 0, _, _ => none
  | n + 1, x2, M =>
    (if x2 < 0 then (f_X12_nextWho_32 x0 x1 x2 M) else z_rd (M.2.1 x0 35) fun a_2 => if z_ix x2 (z_ln SH a_2) = true then z_rd (M.2.1 x0 35) fun a_4 => if z_ix (x2 + 1) (z_ln SH a_4) = true then (if (M.1 a_2 (x2 : Int32).toNatClampNeg) ≤ (M.1 a_4 ((x2 + 1) : Int32).toNatClampNeg) then (f_X12_nextWho_32 x0 x1 x2 M) else zl ((x2 - 1)) fun x2_7 => (f_X12_nextWho_4 x0 x1 n x2_7 M)) else none else none)
set_option maxHeartbeats 2000000 in
set_option maxRecDepth 20000 in
theorem t_X12_nextWho_4 {l : Launch} {x0 : Nat} {x1 : Int32} {MO : zM} {v : Int32} (h0 : z_tm SH 11 x0) : ∀ (n : Nat) (x2 : Int32) (M : zM), f_X12_nextWho_4 x0 x1 n x2 M = some (v, MO) → zA l yX12_nextWho cX12_nextWho 6 (some .boolean) 2 0 0 SH.length (zDi SH v MO) 0 0 4 [(0, .ref x0), (1, .int x1), (2, .int x2)] [] SH M := by
  intro n
  induction n with
  | zero =>
    intro x2 M hf
    rw [f_X12_nextWho_4] at hf
    cases hf
  | succ n ih =>
    intro x2 M hf
    rw [f_X12_nextWho_4] at hf
    refine z_iload_n dX12_nextWho_4 rfl rfl ?_
    refine z_if_lt (tgt := 32) dX12_nextWho_5 (by decide) (fun q_1 => ?_) (fun q_1 => ?_)
    · have hf := (if_pos q_1).symm.trans hf
      exact t_X12_nextWho_32 h0 hf
    · have hf := (if_neg q_1).symm.trans hf
      refine z_aload_n dX12_nextWho_8 rfl rfl ?_
      obtain ⟨a_2, ra_2, hf⟩ := z_rd_some hf
      refine zgR fl_X12_75 h0 (fun _ => rfl) ra_2 dX12_nextWho_9 (fun ha_2 => ?_)
      refine z_iload_n dX12_nextWho_12 rfl rfl ?_
      obtain ⟨g_3, hf⟩ := z_ifs hf
      refine z_iald ha_2 g_3 rfl dX12_nextWho_13 ?_
      refine z_aload_n dX12_nextWho_14 rfl rfl ?_
      obtain ⟨a_4, ra_4, hf⟩ := z_rd_some hf
      refine zgR fl_X12_75 h0 (fun _ => rfl) ra_4 dX12_nextWho_15 (fun ha_4 => ?_)
      refine z_iload_n dX12_nextWho_18 rfl rfl ?_
      refine z_iconst (v := 1) dX12_nextWho_19 (by decide) ?_
      refine z_iadd dX12_nextWho_20 ?_
      obtain ⟨g_5, hf⟩ := z_ifs hf
      refine z_iald ha_4 g_5 rfl dX12_nextWho_21 ?_
      refine z_icmp_le (tgt := 32) dX12_nextWho_22 (by decide) (fun q_6 => ?_) (fun q_6 => ?_)
      · have hf := (if_pos q_6).symm.trans hf
        exact t_X12_nextWho_32 h0 hf
      · have hf := (if_neg q_6).symm.trans hf
        refine z_iload_n dX12_nextWho_25 rfl rfl ?_
        refine z_iconst (v := 1) dX12_nextWho_26 (by decide) ?_
        refine z_isub dX12_nextWho_27 ?_
        obtain ⟨x2_7, ex2_7, hf⟩ := zl_some hf
        refine z_istore_n' (lv' := [(2, .int x2_7), (0, .ref x0), (1, .int x1)]) rfl dX12_nextWho_28 (by decide) ex2_7 rfl ?_
        refine z_goto (tgt := 4) dX12_nextWho_29 (by decide) ?_
        refine zA.pick [(0, .ref x0), (1, .int x1), (2, .int x2_7)] [1, 2, 0] rfl ?_
        exact ih x2_7 M hf
noncomputable def f_X12_nextWho (x0 : Nat) (x1 : Int32) (M : zM) : Option (Int32 × zM) :=
  zl ((x1 - 2)) fun x2_1 => (f_X12_nextWho_4 x0 x1 zF x2_1 M)
set_option maxHeartbeats 2000000 in
set_option maxRecDepth 20000 in
theorem t_X12_nextWho {l : Launch} {x0 : Nat} {x1 : Int32} {M MO : zM} {v : Int32} (h0 : z_tm SH 11 x0) (hf : f_X12_nextWho x0 x1 M = some (v, MO)) : zMet l yX12_nextWho cX12_nextWho 6 (some .boolean) 2 0 0 [.ref x0, .int x1] SH M (zDi SH v MO) := by
  refine zMet.of (by decide +kernel) (Nat.le_of_ble_eq_true rfl) (Or.inr (Or.inr (Or.inl rfl))) ?_
  show zA l yX12_nextWho cX12_nextWho 6 (some .boolean) 2 0 0 SH.length (zDi SH v MO) 0 0 0 [(0, .ref x0), (1, .int x1)] [] SH M
  unfold f_X12_nextWho at hf
  refine z_iload_n dX12_nextWho_0 rfl rfl ?_
  refine z_iconst (v := 2) dX12_nextWho_1 (by decide) ?_
  refine z_isub dX12_nextWho_2 ?_
  obtain ⟨x2_1, ex2_1, hf⟩ := zl_some hf
  refine z_istore_n' (lv' := [(2, .int x2_1), (0, .ref x0), (1, .int x1)]) rfl dX12_nextWho_3 (by decide) ex2_1 rfl ?_
  refine zA.pick [(0, .ref x0), (1, .int x1), (2, .int x2_1)] [1, 2, 0] rfl ?_
  exact t_X12_nextWho_4 h0 zF x2_1 M hf
noncomputable def f_X12_sleep_227 (x0 : Nat) (x1 : Int32) (x3 : Int32) (k130 : Int64 → Int32 → zM → Option (Int64 × zM)) (x5 : Int64) (M : zM) : Option (Int64 × zM) :=
  z_call (f_X12_nextWho x0 x1 M) fun v_1 M_2 => (k130 x5 v_1 M_2)
set_option maxHeartbeats 2000000 in
set_option maxRecDepth 20000 in
theorem t_X12_sleep_227 {l : Launch} {x0 : Nat} {x1 : Int32} {x3 : Int32} {k130 : Int64 → Int32 → zM → Option (Int64 × zM)} {x5 : Int64} {M MO : zM} {v : Int64} (h0 : z_tm SH 11 x0) (hk130 : ∀ (x5 : Int64) (x7 : Int32) (M : zM), k130 x5 x7 M = some (v, MO) → zA l yX12_sleep cX12_sleep 11 (some .long) 3 0 0 SH.length (zDl SH v MO) 0 0 130 [(0, .ref x0), (1, .int x1), (3, .int x3), (5, .long x5), (7, .int x7)] [] SH M) (hf : f_X12_sleep_227 x0 x1 x3 k130 x5 M = some (v, MO)) : zA l yX12_sleep cX12_sleep 11 (some .long) 3 0 0 SH.length (zDl SH v MO) 0 0 227 [(0, .ref x0), (1, .int x1), (3, .int x3), (5, .long x5)] [] SH M := by
  unfold f_X12_sleep_227 at hf
  refine z_aload_n dX12_sleep_227 rfl rfl ?_
  refine z_iload_n dX12_sleep_228 rfl rfl ?_
  obtain ⟨v_1, M_2, c_3, hf⟩ := z_call_some hf
  refine z_cVi (t_X12_nextWho h0 c_3) kw_X12_nextWho lk_X12_341 h0 rfl (by decide) rfl (Nat.le_of_ble_eq_true rfl) ⟨Nat.le_refl 0, Nat.le_refl 0⟩ dX12_sleep_229 ?_
  refine z_istore' (lv' := [(7, .int v_1), (0, .ref x0), (1, .int x1), (3, .int x3), (5, .long x5)]) dX12_sleep_232 (by decide) rfl rfl ?_
  refine z_goto (tgt := 130) dX12_sleep_234 (by decide) ?_
  refine zA.pick [(0, .ref x0), (1, .int x1), (3, .int x3), (5, .long x5), (7, .int v_1)] [1, 2, 3, 4, 0] rfl ?_
  exact hk130 x5 v_1 M_2 hf
noncomputable def f_X12_sleep_201 (x0 : Nat) (x1 : Int32) (x3 : Int32) (k130 : Int64 → Int32 → zM → Option (Int64 × zM)) : Nat → Int64 → Int32 → zM → Option (Int64 × zM)
  | 0, _, _, _ => none
  | n + 1, x5, x10, M =>
    (if x1 ≤ x10 then (f_X12_sleep_227 x0 x1 x3 k130 x5 M) else z_rd (M.2.1 x0 36) fun a_2 => z_rd (M.2.1 x0 35) fun a_3 => if z_ix x10 (z_ln SH a_3) = true then if z_ix x10 (z_ln SH a_2) = true then zl (zu M.1 a_2 (x10 : Int32).toNatClampNeg (M.1 a_3 (x10 : Int32).toNatClampNeg), M.2) fun M_6 => zl (x10 + 1) fun x10_7 => (f_X12_sleep_201 x0 x1 x3 k130 n x5 x10_7 M_6) else none else none)
set_option maxHeartbeats 2000000 in
set_option maxRecDepth 20000 in
theorem t_X12_sleep_201 {l : Launch} {x0 : Nat} {x1 : Int32} {x3 : Int32} {k130 : Int64 → Int32 → zM → Option (Int64 × zM)} {MO : zM} {v : Int64} (h0 : z_tm SH 11 x0) (hk130 : ∀ (x5 : Int64) (x7 : Int32) (M : zM), k130 x5 x7 M = some (v, MO) → zA l yX12_sleep cX12_sleep 11 (some .long) 3 0 0 SH.length (zDl SH v MO) 0 0 130 [(0, .ref x0), (1, .int x1), (3, .int x3), (5, .long x5), (7, .int x7)] [] SH M) : ∀ (n : Nat) (x5 : Int64) (x10 : Int32) (M : zM), f_X12_sleep_201 x0 x1 x3 k130 n x5 x10 M = some (v, MO) → zA l yX12_sleep cX12_sleep 11 (some .long) 3 0 0 SH.length (zDl SH v MO) 0 0 201 [(0, .ref x0), (1, .int x1), (3, .int x3), (5, .long x5), (10, .int x10)] [] SH M := by
  intro n
  induction n with
  | zero =>
    intro x5 x10 M hf
    rw [f_X12_sleep_201] at hf
    cases hf
  | succ n ih =>
    intro x5 x10 M hf
    rw [f_X12_sleep_201] at hf
    refine z_iload dX12_sleep_201 rfl ?_
    refine z_iload_n dX12_sleep_203 rfl rfl ?_
    refine z_icmp_ge (tgt := 227) dX12_sleep_204 (by decide) (fun q_1 => ?_) (fun q_1 => ?_)
    · have hf := (if_pos q_1).symm.trans hf
      refine zA.pick [(0, .ref x0), (1, .int x1), (3, .int x3), (5, .long x5)] [0, 1, 2, 3] rfl ?_
      exact t_X12_sleep_227 h0 hk130 hf
    · have hf := (if_neg q_1).symm.trans hf
      refine z_aload_n dX12_sleep_207 rfl rfl ?_
      obtain ⟨a_2, ra_2, hf⟩ := z_rd_some hf
      refine zgR fl_X12_78 h0 (fun _ => rfl) ra_2 dX12_sleep_208 (fun ha_2 => ?_)
      refine z_iload dX12_sleep_211 rfl ?_
      refine z_aload_n dX12_sleep_213 rfl rfl ?_
      obtain ⟨a_3, ra_3, hf⟩ := z_rd_some hf
      refine zgR fl_X12_75 h0 (fun _ => rfl) ra_3 dX12_sleep_214 (fun ha_3 => ?_)
      refine z_iload dX12_sleep_217 rfl ?_
      obtain ⟨g_4, hf⟩ := z_ifs hf
      refine z_iald ha_3 g_4 rfl dX12_sleep_219 ?_
      obtain ⟨g_5, hf⟩ := z_ifs hf
      obtain ⟨M_6, eM_6, hf⟩ := zl_some hf
      refine z_iast ha_2 g_5 eM_6 dX12_sleep_220 ?_
      obtain ⟨x10_7, ex10_7, hf⟩ := zl_some hf
      refine z_iinc' (lv' := [(10, .int x10_7), (0, .ref x0), (1, .int x1), (3, .int x3), (5, .long x5)]) dX12_sleep_221 rfl (by decide) ex10_7 (by decide) rfl ?_
      refine z_goto (tgt := 201) dX12_sleep_224 (by decide) ?_
      refine zA.pick [(0, .ref x0), (1, .int x1), (3, .int x3), (5, .long x5), (10, .int x10_7)] [1, 2, 3, 4, 0] rfl ?_
      exact ih x5 x10_7 M_6 hf
noncomputable def f_X12_sleep_194 (x0 : Nat) (x1 : Int32) (x3 : Int32) (k130 : Int64 → Int32 → zM → Option (Int64 × zM)) (x8 : Int64) (M : zM) : Option (Int64 × zM) :=
  (f_X12_sleep_201 x0 x1 x3 k130 zF x8 0 M)
set_option maxHeartbeats 2000000 in
set_option maxRecDepth 20000 in
theorem t_X12_sleep_194 {l : Launch} {x0 : Nat} {x1 : Int32} {x3 : Int32} {k130 : Int64 → Int32 → zM → Option (Int64 × zM)} {x8 : Int64} {M MO : zM} {v : Int64} (h0 : z_tm SH 11 x0) (hk130 : ∀ (x5 : Int64) (x7 : Int32) (M : zM), k130 x5 x7 M = some (v, MO) → zA l yX12_sleep cX12_sleep 11 (some .long) 3 0 0 SH.length (zDl SH v MO) 0 0 130 [(0, .ref x0), (1, .int x1), (3, .int x3), (5, .long x5), (7, .int x7)] [] SH M) (hf : f_X12_sleep_194 x0 x1 x3 k130 x8 M = some (v, MO)) : zA l yX12_sleep cX12_sleep 11 (some .long) 3 0 0 SH.length (zDl SH v MO) 0 0 194 [(0, .ref x0), (1, .int x1), (3, .int x3), (8, .long x8)] [] SH M := by
  unfold f_X12_sleep_194 at hf
  refine z_lload dX12_sleep_194 rfl ?_
  refine z_lstore' (lv' := [(5, .long x8), (0, .ref x0), (1, .int x1), (3, .int x3), (8, .long x8)]) dX12_sleep_196 (by decide) rfl rfl ?_
  refine z_iconst (v := 0) dX12_sleep_198 (by decide) ?_
  refine z_istore' (lv' := [(10, .int 0), (5, .long x8), (0, .ref x0), (1, .int x1), (3, .int x3), (8, .long x8)]) dX12_sleep_199 (by decide) rfl rfl ?_
  refine zA.pick [(0, .ref x0), (1, .int x1), (3, .int x3), (5, .long x8), (10, .int 0)] [2, 3, 4, 1, 0] rfl ?_
  exact t_X12_sleep_201 h0 hk130 zF x8 0 M hf
noncomputable def f_X12_sleep_141 (x0 : Nat) (x1 : Int32) (x3 : Int32) (k130 : Int64 → Int32 → zM → Option (Int64 × zM)) : Nat → Int64 → Int64 → Int32 → zM → Option (Int64 × zM)
  | 0, _, _, _, _ => none
  | n + 1, x5, x8, x10, M =>
    (if x1 ≤ x10 then (if (lg_cmp x5 0) < 0 then (f_X12_sleep_194 x0 x1 x3 k130 x8 M) else (if 0 ≤ (lg_cmp x8 x5) then (f_X12_sleep_227 x0 x1 x3 k130 x5 M) else (f_X12_sleep_194 x0 x1 x3 k130 x8 M))) else z_rd (M.2.1 x0 35) fun a_4 => if z_ix x10 (z_ln SH a_4) = true then z_call (f_X12_octet x0 (M.1 a_4 (x10 : Int32).toNatClampNeg) M) fun v_6 M_7 => z_rd (M_7.2.1 x0 37) fun a_9 => if z_ix x10 (z_ln SH a_9) = true then zl ((x8 + ((v_6 : Int32).toInt64 * ((M_7.1 a_9 (x10 : Int32).toNatClampNeg) : Int32).toInt64))) fun x8_11 => zl (x10 + 1) fun x10_12 => (f_X12_sleep_141 x0 x1 x3 k130 n x5 x8_11 x10_12 M_7) else none else none)
set_option maxHeartbeats 2000000 in
set_option maxRecDepth 20000 in
theorem t_X12_sleep_141 {l : Launch} {x0 : Nat} {x1 : Int32} {x3 : Int32} {k130 : Int64 → Int32 → zM → Option (Int64 × zM)} {MO : zM} {v : Int64} (h0 : z_tm SH 11 x0) (hk130 : ∀ (x5 : Int64) (x7 : Int32) (M : zM), k130 x5 x7 M = some (v, MO) → zA l yX12_sleep cX12_sleep 11 (some .long) 3 0 0 SH.length (zDl SH v MO) 0 0 130 [(0, .ref x0), (1, .int x1), (3, .int x3), (5, .long x5), (7, .int x7)] [] SH M) : ∀ (n : Nat) (x5 : Int64) (x8 : Int64) (x10 : Int32) (M : zM), f_X12_sleep_141 x0 x1 x3 k130 n x5 x8 x10 M = some (v, MO) → zA l yX12_sleep cX12_sleep 11 (some .long) 3 0 0 SH.length (zDl SH v MO) 0 0 141 [(0, .ref x0), (1, .int x1), (3, .int x3), (5, .long x5), (8, .long x8), (10, .int x10)] [] SH M := by
  intro n
  induction n with
  | zero =>
    intro x5 x8 x10 M hf
    rw [f_X12_sleep_141] at hf
    cases hf
  | succ n ih =>
    intro x5 x8 x10 M hf
    rw [f_X12_sleep_141] at hf
    refine z_iload dX12_sleep_141 rfl ?_
    refine z_iload_n dX12_sleep_143 rfl rfl ?_
    refine z_icmp_ge (tgt := 179) dX12_sleep_144 (by decide) (fun q_1 => ?_) (fun q_1 => ?_)
    · have hf := (if_pos q_1).symm.trans hf
      refine z_lload dX12_sleep_179 rfl ?_
      refine z_lconst (v := 0) dX12_sleep_181 (by decide) ?_
      refine z_lcmp dX12_sleep_182 ?_
      refine z_if_lt (tgt := 194) dX12_sleep_183 (by decide) (fun q_2 => ?_) (fun q_2 => ?_)
      · have hf := (if_pos q_2).symm.trans hf
        refine zA.pick [(0, .ref x0), (1, .int x1), (3, .int x3), (8, .long x8)] [0, 1, 2, 4] rfl ?_
        exact t_X12_sleep_194 h0 hk130 hf
      · have hf := (if_neg q_2).symm.trans hf
        refine z_lload dX12_sleep_186 rfl ?_
        refine z_lload dX12_sleep_188 rfl ?_
        refine z_lcmp dX12_sleep_190 ?_
        refine z_if_ge (tgt := 227) dX12_sleep_191 (by decide) (fun q_3 => ?_) (fun q_3 => ?_)
        · have hf := (if_pos q_3).symm.trans hf
          refine zA.pick [(0, .ref x0), (1, .int x1), (3, .int x3), (5, .long x5)] [0, 1, 2, 3] rfl ?_
          exact t_X12_sleep_227 h0 hk130 hf
        · have hf := (if_neg q_3).symm.trans hf
          refine zA.pick [(0, .ref x0), (1, .int x1), (3, .int x3), (8, .long x8)] [0, 1, 2, 4] rfl ?_
          exact t_X12_sleep_194 h0 hk130 hf
    · have hf := (if_neg q_1).symm.trans hf
      refine z_lload dX12_sleep_147 rfl ?_
      refine z_aload_n dX12_sleep_149 rfl rfl ?_
      refine z_aload_n dX12_sleep_150 rfl rfl ?_
      obtain ⟨a_4, ra_4, hf⟩ := z_rd_some hf
      refine zgR fl_X12_75 h0 (fun _ => rfl) ra_4 dX12_sleep_151 (fun ha_4 => ?_)
      refine z_iload dX12_sleep_154 rfl ?_
      obtain ⟨g_5, hf⟩ := z_ifs hf
      refine z_iald ha_4 g_5 rfl dX12_sleep_156 ?_
      obtain ⟨v_6, M_7, c_8, hf⟩ := z_call_some hf
      refine z_cVi (t_X12_octet h0 c_8) kw_X12_octet lk_X12_338 h0 rfl (by decide) rfl (Nat.le_of_ble_eq_true rfl) ⟨Nat.le_refl 0, Nat.le_refl 0⟩ dX12_sleep_157 ?_
      refine z_i2l dX12_sleep_160 ?_
      refine z_aload_n dX12_sleep_161 rfl rfl ?_
      obtain ⟨a_9, ra_9, hf⟩ := z_rd_some hf
      refine zgR fl_X12_81 h0 (fun _ => rfl) ra_9 dX12_sleep_162 (fun ha_9 => ?_)
      refine z_iload dX12_sleep_165 rfl ?_
      obtain ⟨g_10, hf⟩ := z_ifs hf
      refine z_iald ha_9 g_10 rfl dX12_sleep_167 ?_
      refine z_i2l dX12_sleep_168 ?_
      refine z_lmul dX12_sleep_169 ?_
      refine z_ladd dX12_sleep_170 ?_
      obtain ⟨x8_11, ex8_11, hf⟩ := zl_some hf
      refine z_lstore' (lv' := [(8, .long x8_11), (0, .ref x0), (1, .int x1), (3, .int x3), (5, .long x5), (10, .int x10)]) dX12_sleep_171 (by decide) ex8_11 rfl ?_
      obtain ⟨x10_12, ex10_12, hf⟩ := zl_some hf
      refine z_iinc' (lv' := [(10, .int x10_12), (8, .long x8_11), (0, .ref x0), (1, .int x1), (3, .int x3), (5, .long x5)]) dX12_sleep_173 rfl (by decide) ex10_12 (by decide) rfl ?_
      refine z_goto (tgt := 141) dX12_sleep_176 (by decide) ?_
      refine zA.pick [(0, .ref x0), (1, .int x1), (3, .int x3), (5, .long x5), (8, .long x8_11), (10, .int x10_12)] [2, 3, 4, 5, 1, 0] rfl ?_
      exact ih x5 x8_11 x10_12 M_7 hf
noncomputable def f_X12_sleep_130 (x0 : Nat) (x1 : Int32) (x3 : Int32) : Nat → Int64 → Int32 → zM → Option (Int64 × zM)
  | 0, _, _, _ => none
  | n + 1, x5, x7, M =>
    (if x7 = 0 then (if x3 = 100 then some (x5, M) else z_rd (M.2.1 x0 36) fun a_3 => if z_ix x3 (z_ln SH a_3) = true then some (((M.1 a_3 (x3 : Int32).toNatClampNeg) : Int32).toInt64, M) else none) else (f_X12_sleep_141 x0 x1 x3 (f_X12_sleep_130 x0 x1 x3 n) zF x5 0 0 M))
set_option maxHeartbeats 2000000 in
set_option maxRecDepth 20000 in
theorem t_X12_sleep_130 {l : Launch} {x0 : Nat} {x1 : Int32} {x3 : Int32} {MO : zM} {v : Int64} (h0 : z_tm SH 11 x0) : ∀ (n : Nat) (x5 : Int64) (x7 : Int32) (M : zM), f_X12_sleep_130 x0 x1 x3 n x5 x7 M = some (v, MO) → zA l yX12_sleep cX12_sleep 11 (some .long) 3 0 0 SH.length (zDl SH v MO) 0 0 130 [(0, .ref x0), (1, .int x1), (3, .int x3), (5, .long x5), (7, .int x7)] [] SH M := by
  intro n
  induction n with
  | zero =>
    intro x5 x7 M hf
    rw [f_X12_sleep_130] at hf
    cases hf
  | succ n ih =>
    intro x5 x7 M hf
    rw [f_X12_sleep_130] at hf
    refine z_iload dX12_sleep_130 rfl ?_
    refine z_if_eq (tgt := 237) dX12_sleep_132 (by decide) (fun q_1 => ?_) (fun q_1 => ?_)
    · have hf := (if_pos q_1).symm.trans hf
      refine z_iload_n dX12_sleep_237 rfl rfl ?_
      refine z_bipush (v := 100) dX12_sleep_238 (by decide) ?_
      refine z_icmp_ne (tgt := 248) dX12_sleep_240 (by decide) (fun q_2 => ?_) (fun q_2 => ?_)
      · have hf := (if_neg q_2).symm.trans hf
        refine z_aload_n dX12_sleep_248 rfl rfl ?_
        obtain ⟨a_3, ra_3, hf⟩ := z_rd_some hf
        refine zgR fl_X12_78 h0 (fun _ => rfl) ra_3 dX12_sleep_249 (fun ha_3 => ?_)
        refine z_iload_n dX12_sleep_252 rfl rfl ?_
        obtain ⟨g_4, hf⟩ := z_ifs hf
        refine z_iald ha_3 g_4 rfl dX12_sleep_253 ?_
        refine z_i2l dX12_sleep_254 ?_
        obtain ⟨rfl, rfl⟩ := z_end hf
        exact z_lret ⟨rfl, rfl, rfl⟩ rfl dX12_sleep_255
      · have hf := (if_pos q_2).symm.trans hf
        refine z_lload dX12_sleep_243 rfl ?_
        refine z_goto (tgt := 255) dX12_sleep_245 (by decide) ?_
        obtain ⟨rfl, rfl⟩ := z_end hf
        exact z_lret ⟨rfl, rfl, rfl⟩ rfl dX12_sleep_255
    · have hf := (if_neg q_1).symm.trans hf
      refine z_lconst (v := 0) dX12_sleep_135 (by decide) ?_
      refine z_lstore' (lv' := [(8, .long 0), (0, .ref x0), (1, .int x1), (3, .int x3), (5, .long x5), (7, .int x7)]) dX12_sleep_136 (by decide) rfl rfl ?_
      refine z_iconst (v := 0) dX12_sleep_138 (by decide) ?_
      refine z_istore' (lv' := [(10, .int 0), (8, .long 0), (0, .ref x0), (1, .int x1), (3, .int x3), (5, .long x5), (7, .int x7)]) dX12_sleep_139 (by decide) rfl rfl ?_
      refine zA.pick [(0, .ref x0), (1, .int x1), (3, .int x3), (5, .long x5), (8, .long 0), (10, .int 0)] [2, 3, 4, 5, 1, 0] rfl ?_
      exact t_X12_sleep_141 h0 ih zF x5 0 0 M hf
noncomputable def f_X12_sleep_116 (x0 : Nat) (x1 : Int32) (x2 : Int32) (x3 : Int32) (k69 : Int32 → Int32 → zM → Option (Int64 × zM)) (x4 : Int32) (x5 : Int32) (M : zM) : Option (Int64 × zM) :=
  zl (x5 + 1) fun x5_1 => (k69 x4 x5_1 M)
set_option maxHeartbeats 2000000 in
set_option maxRecDepth 20000 in
theorem t_X12_sleep_116 {l : Launch} {x0 : Nat} {x1 : Int32} {x2 : Int32} {x3 : Int32} {k69 : Int32 → Int32 → zM → Option (Int64 × zM)} {x4 : Int32} {x5 : Int32} {M MO : zM} {v : Int64} (h0 : z_tm SH 11 x0) (hk69 : ∀ (x4 : Int32) (x5 : Int32) (M : zM), k69 x4 x5 M = some (v, MO) → zA l yX12_sleep cX12_sleep 11 (some .long) 3 0 0 SH.length (zDl SH v MO) 0 0 69 [(0, .ref x0), (1, .int x1), (2, .int x2), (3, .int x3), (4, .int x4), (5, .int x5)] [] SH M) (hf : f_X12_sleep_116 x0 x1 x2 x3 k69 x4 x5 M = some (v, MO)) : zA l yX12_sleep cX12_sleep 11 (some .long) 3 0 0 SH.length (zDl SH v MO) 0 0 116 [(0, .ref x0), (1, .int x1), (2, .int x2), (3, .int x3), (4, .int x4), (5, .int x5)] [] SH M := by
  unfold f_X12_sleep_116 at hf
  obtain ⟨x5_1, ex5_1, hf⟩ := zl_some hf
  refine z_iinc' (lv' := [(5, .int x5_1), (0, .ref x0), (1, .int x1), (2, .int x2), (3, .int x3), (4, .int x4)]) dX12_sleep_116 rfl (by decide) ex5_1 (by decide) rfl ?_
  refine z_goto (tgt := 69) dX12_sleep_119 (by decide) ?_
  refine zA.pick [(0, .ref x0), (1, .int x1), (2, .int x2), (3, .int x3), (4, .int x4), (5, .int x5_1)] [1, 2, 3, 4, 5, 0] rfl ?_
  exact hk69 x4 x5_1 M hf
noncomputable def f_X12_sleep_69 (x0 : Nat) (x1 : Int32) (x2 : Int32) (x3 : Int32) : Nat → Int32 → Int32 → zM → Option (Int64 × zM)
  | 0, _, _, _ => none
  | n + 1, x4, x5, M =>
    (if 24 ≤ x5 then (f_X12_sleep_130 x0 x1 x3 zF (-1) 1 M) else z_call (f_X12_has x2 x5 M) fun v_2 M_3 => (if v_2 = 0 then (f_X12_sleep_116 x0 x1 x2 x3 (f_X12_sleep_69 x0 x1 x2 x3 n) x4 x5 M_3) else z_rd (M_3.2.1 x0 37) fun a_6 => z_call (f_X12_feltIn x0 x5 M_3) fun v_7 M_8 => if z_ix x4 (z_ln SH a_6) = true then zl (zu M_8.1 a_6 (x4 : Int32).toNatClampNeg v_7, M_8.2) fun M_11 => z_rd (M_11.2.1 x0 35) fun a_12 => if z_ix x4 (z_ln SH a_12) = true then zl (zu M_11.1 a_12 (x4 : Int32).toNatClampNeg x4, M_11.2) fun M_14 => zl ((x4 + 1)) fun x4_15 => (f_X12_sleep_116 x0 x1 x2 x3 (f_X12_sleep_69 x0 x1 x2 x3 n) x4_15 x5 M_14) else none else none))
set_option maxHeartbeats 2000000 in
set_option maxRecDepth 20000 in
theorem t_X12_sleep_69 {l : Launch} {x0 : Nat} {x1 : Int32} {x2 : Int32} {x3 : Int32} {MO : zM} {v : Int64} (h0 : z_tm SH 11 x0) : ∀ (n : Nat) (x4 : Int32) (x5 : Int32) (M : zM), f_X12_sleep_69 x0 x1 x2 x3 n x4 x5 M = some (v, MO) → zA l yX12_sleep cX12_sleep 11 (some .long) 3 0 0 SH.length (zDl SH v MO) 0 0 69 [(0, .ref x0), (1, .int x1), (2, .int x2), (3, .int x3), (4, .int x4), (5, .int x5)] [] SH M := by
  intro n
  induction n with
  | zero =>
    intro x4 x5 M hf
    rw [f_X12_sleep_69] at hf
    cases hf
  | succ n ih =>
    intro x4 x5 M hf
    rw [f_X12_sleep_69] at hf
    refine z_iload dX12_sleep_69 rfl ?_
    refine z_bipush (v := 24) dX12_sleep_71 (by decide) ?_
    refine z_icmp_ge (tgt := 122) dX12_sleep_73 (by decide) (fun q_1 => ?_) (fun q_1 => ?_)
    · have hf := (if_pos q_1).symm.trans hf
      refine z_ldc2 (v := (-1)) dX12_sleep_122 cn_X12_336 ?_
      refine z_lstore' (lv' := [(5, .long (-1)), (0, .ref x0), (1, .int x1), (2, .int x2), (3, .int x3), (4, .int x4)]) dX12_sleep_125 (by decide) rfl rfl ?_
      refine z_iconst (v := 1) dX12_sleep_127 (by decide) ?_
      refine z_istore' (lv' := [(7, .int 1), (5, .long (-1)), (0, .ref x0), (1, .int x1), (2, .int x2), (3, .int x3), (4, .int x4)]) dX12_sleep_128 (by decide) rfl rfl ?_
      refine zA.pick [(0, .ref x0), (1, .int x1), (3, .int x3), (5, .long (-1)), (7, .int 1)] [2, 3, 5, 1, 0] rfl ?_
      exact t_X12_sleep_130 h0 zF (-1) 1 M hf
    · have hf := (if_neg q_1).symm.trans hf
      refine z_iload_n dX12_sleep_76 rfl rfl ?_
      refine z_iload dX12_sleep_77 rfl ?_
      obtain ⟨v_2, M_3, c_4, hf⟩ := z_call_some hf
      refine z_cSi (t_X12_has  c_4) kw_X12_has lk_X12_326 rfl (by decide) rfl (Nat.le_of_ble_eq_true rfl) ⟨Nat.le_refl 0, Nat.le_refl 0⟩ dX12_sleep_79 ?_
      refine z_if_ne (tgt := 88) dX12_sleep_82 (by decide) (fun q_5 => ?_) (fun q_5 => ?_)
      · have hf := (if_neg q_5).symm.trans hf
        refine z_aload_n dX12_sleep_88 rfl rfl ?_
        obtain ⟨a_6, ra_6, hf⟩ := z_rd_some hf
        refine zgR fl_X12_81 h0 (fun _ => rfl) ra_6 dX12_sleep_89 (fun ha_6 => ?_)
        refine z_iload dX12_sleep_92 rfl ?_
        refine z_aload_n dX12_sleep_94 rfl rfl ?_
        refine z_iload dX12_sleep_95 rfl ?_
        obtain ⟨v_7, M_8, c_9, hf⟩ := z_call_some hf
        refine z_cVi (t_X12_feltIn h0 c_9) kw_X12_feltIn lk_X12_227 h0 rfl (by decide) rfl (Nat.le_of_ble_eq_true rfl) ⟨Nat.le_refl 0, Nat.le_refl 0⟩ dX12_sleep_97 ?_
        obtain ⟨g_10, hf⟩ := z_ifs hf
        obtain ⟨M_11, eM_11, hf⟩ := zl_some hf
        refine z_iast ha_6 g_10 eM_11 dX12_sleep_100 ?_
        refine z_aload_n dX12_sleep_101 rfl rfl ?_
        obtain ⟨a_12, ra_12, hf⟩ := z_rd_some hf
        refine zgR fl_X12_75 h0 (fun _ => rfl) ra_12 dX12_sleep_102 (fun ha_12 => ?_)
        refine z_iload dX12_sleep_105 rfl ?_
        refine z_iload dX12_sleep_107 rfl ?_
        obtain ⟨g_13, hf⟩ := z_ifs hf
        obtain ⟨M_14, eM_14, hf⟩ := zl_some hf
        refine z_iast ha_12 g_13 eM_14 dX12_sleep_109 ?_
        refine z_iload dX12_sleep_110 rfl ?_
        refine z_iconst (v := 1) dX12_sleep_112 (by decide) ?_
        refine z_iadd dX12_sleep_113 ?_
        obtain ⟨x4_15, ex4_15, hf⟩ := zl_some hf
        refine z_istore' (lv' := [(4, .int x4_15), (0, .ref x0), (1, .int x1), (2, .int x2), (3, .int x3), (5, .int x5)]) dX12_sleep_114 (by decide) ex4_15 rfl ?_
        refine zA.pick [(0, .ref x0), (1, .int x1), (2, .int x2), (3, .int x3), (4, .int x4_15), (5, .int x5)] [1, 2, 3, 4, 0, 5] rfl ?_
        exact t_X12_sleep_116 h0 ih hf
      · have hf := (if_pos q_5).symm.trans hf
        refine z_goto (tgt := 116) dX12_sleep_85 (by decide) ?_
        exact t_X12_sleep_116 h0 ih hf
noncomputable def f_X12_sleep_46 (x0 : Nat) (x1 : Int32) (x2 : Int32) (x3 : Int32) (M : zM) : Option (Int64 × zM) :=
  (if x1 ≤ (M.1 x0 4) then zl (zu M.1 x0 4 0, M.2) fun M_2 => (f_X12_sleep_69 x0 x1 x2 x3 zF 0 0 M_2) else some ((-1), M))
set_option maxHeartbeats 2000000 in
set_option maxRecDepth 20000 in
theorem t_X12_sleep_46 {l : Launch} {x0 : Nat} {x1 : Int32} {x2 : Int32} {x3 : Int32} {M MO : zM} {v : Int64} (h0 : z_tm SH 11 x0) (hf : f_X12_sleep_46 x0 x1 x2 x3 M = some (v, MO)) : zA l yX12_sleep cX12_sleep 11 (some .long) 3 0 0 SH.length (zDl SH v MO) 0 0 46 [(0, .ref x0), (1, .int x1), (2, .int x2), (3, .int x3)] [] SH M := by
  unfold f_X12_sleep_46 at hf
  refine z_iload_n dX12_sleep_46 rfl rfl ?_
  refine z_aload_n dX12_sleep_47 rfl rfl ?_
  refine zgI fl_X12_115 h0 (fun _ => rfl) dX12_sleep_48 ?_
  refine z_icmp_le (tgt := 58) dX12_sleep_51 (by decide) (fun q_1 => ?_) (fun q_1 => ?_)
  · have hf := (if_pos q_1).symm.trans hf
    refine z_aload_n dX12_sleep_58 rfl rfl ?_
    refine z_iconst (v := 0) dX12_sleep_59 (by decide) ?_
    obtain ⟨M_2, eM_2, hf⟩ := zl_some hf
    refine zpI fl_X12_115 h0 rfl (Or.inl rfl) eM_2 dX12_sleep_60 ?_
    refine z_iconst (v := 0) dX12_sleep_63 (by decide) ?_
    refine z_istore' (lv' := [(4, .int 0), (0, .ref x0), (1, .int x1), (2, .int x2), (3, .int x3)]) dX12_sleep_64 (by decide) rfl rfl ?_
    refine z_iconst (v := 0) dX12_sleep_66 (by decide) ?_
    refine z_istore' (lv' := [(5, .int 0), (4, .int 0), (0, .ref x0), (1, .int x1), (2, .int x2), (3, .int x3)]) dX12_sleep_67 (by decide) rfl rfl ?_
    refine zA.pick [(0, .ref x0), (1, .int x1), (2, .int x2), (3, .int x3), (4, .int 0), (5, .int 0)] [2, 3, 4, 5, 1, 0] rfl ?_
    exact t_X12_sleep_69 h0 zF 0 0 M_2 hf
  · have hf := (if_neg q_1).symm.trans hf
    refine z_ldc2 (v := (-1)) dX12_sleep_54 cn_X12_336 ?_
    obtain ⟨rfl, rfl⟩ := z_end hf
    exact z_lret ⟨rfl, rfl, rfl⟩ rfl dX12_sleep_57
noncomputable def f_X12_sleep (x0 : Nat) (x1 : Int32) (x2 : Int32) (x3 : Int32) (M : zM) : Option (Int64 × zM) :=
  z_call (f_X12_in x1 1 6 M) fun v_1 M_2 => (if v_1 = 0 then some ((-1), M_2) else z_call (f_X12_in x2 1 16777215 M_2) fun v_5 M_6 => (if v_5 = 0 then some ((-1), M_6) else z_call (f_X12_bits x2 M_6) fun v_9 M_10 => (if v_9 = x1 then (if x3 = 100 then (f_X12_sleep_46 x0 x1 x2 x3 M_10) else z_call (f_X12_in x3 0 (x1 - 1) M_10) fun v_14 M_15 => (if v_14 = 0 then some ((-1), M_15) else (f_X12_sleep_46 x0 x1 x2 x3 M_15))) else some ((-1), M_10))))
set_option maxHeartbeats 2000000 in
set_option maxRecDepth 20000 in
theorem t_X12_sleep {l : Launch} {x0 : Nat} {x1 : Int32} {x2 : Int32} {x3 : Int32} {M MO : zM} {v : Int64} (h0 : z_tm SH 11 x0) (hf : f_X12_sleep x0 x1 x2 x3 M = some (v, MO)) : zMet l yX12_sleep cX12_sleep 11 (some .long) 3 0 0 [.ref x0, .int x1, .int x2, .int x3] SH M (zDl SH v MO) := by
  refine zMet.of (by decide +kernel) (Nat.le_of_ble_eq_true rfl) (Or.inr (Or.inr (Or.inr rfl))) ?_
  show zA l yX12_sleep cX12_sleep 11 (some .long) 3 0 0 SH.length (zDl SH v MO) 0 0 0 [(0, .ref x0), (1, .int x1), (2, .int x2), (3, .int x3)] [] SH M
  unfold f_X12_sleep at hf
  refine z_iload_n dX12_sleep_0 rfl rfl ?_
  refine z_iconst (v := 1) dX12_sleep_1 (by decide) ?_
  refine z_bipush (v := 6) dX12_sleep_2 (by decide) ?_
  obtain ⟨v_1, M_2, c_3, hf⟩ := z_call_some hf
  refine z_cSi (t_X12_in  c_3) kw_X12_in lk_X12_90 rfl (by decide) rfl (Nat.le_of_ble_eq_true rfl) ⟨Nat.le_refl 0, Nat.le_refl 0⟩ dX12_sleep_4 ?_
  refine z_if_eq (tgt := 54) dX12_sleep_7 (by decide) (fun q_4 => ?_) (fun q_4 => ?_)
  · have hf := (if_pos q_4).symm.trans hf
    refine z_ldc2 (v := (-1)) dX12_sleep_54 cn_X12_336 ?_
    obtain ⟨rfl, rfl⟩ := z_end hf
    exact z_lret ⟨rfl, rfl, rfl⟩ rfl dX12_sleep_57
  · have hf := (if_neg q_4).symm.trans hf
    refine z_iload_n dX12_sleep_10 rfl rfl ?_
    refine z_iconst (v := 1) dX12_sleep_11 (by decide) ?_
    refine z_ldcw (v := 16777215) dX12_sleep_12 cn_X12_325 ?_
    obtain ⟨v_5, M_6, c_7, hf⟩ := z_call_some hf
    refine z_cSi (t_X12_in  c_7) kw_X12_in lk_X12_90 rfl (by decide) rfl (Nat.le_of_ble_eq_true rfl) ⟨Nat.le_refl 0, Nat.le_refl 0⟩ dX12_sleep_15 ?_
    refine z_if_eq (tgt := 54) dX12_sleep_18 (by decide) (fun q_8 => ?_) (fun q_8 => ?_)
    · have hf := (if_pos q_8).symm.trans hf
      refine z_ldc2 (v := (-1)) dX12_sleep_54 cn_X12_336 ?_
      obtain ⟨rfl, rfl⟩ := z_end hf
      exact z_lret ⟨rfl, rfl, rfl⟩ rfl dX12_sleep_57
    · have hf := (if_neg q_8).symm.trans hf
      refine z_iload_n dX12_sleep_21 rfl rfl ?_
      obtain ⟨v_9, M_10, c_11, hf⟩ := z_call_some hf
      refine z_cSi (t_X12_bits  c_11) kw_X12_bits lk_X12_306 rfl (by decide) rfl (Nat.le_of_ble_eq_true rfl) ⟨Nat.le_refl 0, Nat.le_refl 0⟩ dX12_sleep_22 ?_
      refine z_iload_n dX12_sleep_25 rfl rfl ?_
      refine z_icmp_ne (tgt := 54) dX12_sleep_26 (by decide) (fun q_12 => ?_) (fun q_12 => ?_)
      · have hf := (if_neg q_12).symm.trans hf
        refine z_ldc2 (v := (-1)) dX12_sleep_54 cn_X12_336 ?_
        obtain ⟨rfl, rfl⟩ := z_end hf
        exact z_lret ⟨rfl, rfl, rfl⟩ rfl dX12_sleep_57
      · have hf := (if_pos q_12).symm.trans hf
        refine z_iload_n dX12_sleep_29 rfl rfl ?_
        refine z_bipush (v := 100) dX12_sleep_30 (by decide) ?_
        refine z_icmp_eq (tgt := 46) dX12_sleep_32 (by decide) (fun q_13 => ?_) (fun q_13 => ?_)
        · have hf := (if_pos q_13).symm.trans hf
          exact t_X12_sleep_46 h0 hf
        · have hf := (if_neg q_13).symm.trans hf
          refine z_iload_n dX12_sleep_35 rfl rfl ?_
          refine z_iconst (v := 0) dX12_sleep_36 (by decide) ?_
          refine z_iload_n dX12_sleep_37 rfl rfl ?_
          refine z_iconst (v := 1) dX12_sleep_38 (by decide) ?_
          refine z_isub dX12_sleep_39 ?_
          obtain ⟨v_14, M_15, c_16, hf⟩ := z_call_some hf
          refine z_cSi (t_X12_in  c_16) kw_X12_in lk_X12_90 rfl (by decide) rfl (Nat.le_of_ble_eq_true rfl) ⟨Nat.le_refl 0, Nat.le_refl 0⟩ dX12_sleep_40 ?_
          refine z_if_eq (tgt := 54) dX12_sleep_43 (by decide) (fun q_17 => ?_) (fun q_17 => ?_)
          · have hf := (if_pos q_17).symm.trans hf
            refine z_ldc2 (v := (-1)) dX12_sleep_54 cn_X12_336 ?_
            obtain ⟨rfl, rfl⟩ := z_end hf
            exact z_lret ⟨rfl, rfl, rfl⟩ rfl dX12_sleep_57
          · have hf := (if_neg q_17).symm.trans hf
            exact t_X12_sleep_46 h0 hf
noncomputable def f_X12_breakfast_88 (x0 : Nat) (x1 : Int32) (k26 : Int32 → Int32 → Int32 → Int32 → zM → Option (Int32 × zM)) (x2 : Int32) (x3 : Int32) (x4 : Int32) (x5 : Int32) (M : zM) : Option (Int32 × zM) :=
  zl (x5 + 1) fun x5_1 => (k26 x2 x3 x4 x5_1 M)
set_option maxHeartbeats 2000000 in
set_option maxRecDepth 20000 in
theorem t_X12_breakfast_88 {l : Launch} {x0 : Nat} {x1 : Int32} {k26 : Int32 → Int32 → Int32 → Int32 → zM → Option (Int32 × zM)} {x2 : Int32} {x3 : Int32} {x4 : Int32} {x5 : Int32} {M MO : zM} {v : Int32} (h0 : z_tm SH 11 x0) (hk26 : ∀ (x2 : Int32) (x3 : Int32) (x4 : Int32) (x5 : Int32) (M : zM), k26 x2 x3 x4 x5 M = some (v, MO) → zA l yX12_breakfast cX12_breakfast 6 (some .int) 3 0 0 SH.length (zDi SH v MO) 0 0 26 [(0, .ref x0), (1, .int x1), (2, .int x2), (3, .int x3), (4, .int x4), (5, .int x5)] [] SH M) (hf : f_X12_breakfast_88 x0 x1 k26 x2 x3 x4 x5 M = some (v, MO)) : zA l yX12_breakfast cX12_breakfast 6 (some .int) 3 0 0 SH.length (zDi SH v MO) 0 0 88 [(0, .ref x0), (1, .int x1), (2, .int x2), (3, .int x3), (4, .int x4), (5, .int x5)] [] SH M := by
  unfold f_X12_breakfast_88 at hf
  obtain ⟨x5_1, ex5_1, hf⟩ := zl_some hf
  refine z_iinc' (lv' := [(5, .int x5_1), (0, .ref x0), (1, .int x1), (2, .int x2), (3, .int x3), (4, .int x4)]) dX12_breakfast_88 rfl (by decide) ex5_1 (by decide) rfl ?_
  refine z_goto (tgt := 26) dX12_breakfast_91 (by decide) ?_
  refine zA.pick [(0, .ref x0), (1, .int x1), (2, .int x2), (3, .int x3), (4, .int x4), (5, .int x5_1)] [1, 2, 3, 4, 5, 0] rfl ?_
  exact hk26 x2 x3 x4 x5_1 M hf
noncomputable def f_X12_breakfast_59 (x0 : Nat) (x1 : Int32) (k26 : Int32 → Int32 → Int32 → Int32 → zM → Option (Int32 × zM)) (x2 : Int32) (x3 : Int32) (x4 : Int32) (x5 : Int32) (M : zM) : Option (Int32 × zM) :=
  (if x1 = 100 then (f_X12_breakfast_88 x0 x1 k26 x2 x3 x4 x5 M) else z_rd (M.2.1 x0 0) fun a_2 => z_call (f_X12_felt x5 x1 M) fun v_3 M_4 => if z_ix v_3 (z_ln SH a_2) = true then (if (M_4.1 a_2 (v_3 : Int32).toNatClampNeg) ≤ 0 then (f_X12_breakfast_88 x0 x1 k26 x2 x3 x4 x5 M_4) else zl ((x4 ||| ((1 : Int32) <<< (x5 &&& 31)))) fun x4_8 => (f_X12_breakfast_88 x0 x1 k26 x2 x3 x4_8 x5 M_4)) else none)
set_option maxHeartbeats 2000000 in
set_option maxRecDepth 20000 in
theorem t_X12_breakfast_59 {l : Launch} {x0 : Nat} {x1 : Int32} {k26 : Int32 → Int32 → Int32 → Int32 → zM → Option (Int32 × zM)} {x2 : Int32} {x3 : Int32} {x4 : Int32} {x5 : Int32} {M MO : zM} {v : Int32} (h0 : z_tm SH 11 x0) (hk26 : ∀ (x2 : Int32) (x3 : Int32) (x4 : Int32) (x5 : Int32) (M : zM), k26 x2 x3 x4 x5 M = some (v, MO) → zA l yX12_breakfast cX12_breakfast 6 (some .int) 3 0 0 SH.length (zDi SH v MO) 0 0 26 [(0, .ref x0), (1, .int x1), (2, .int x2), (3, .int x3), (4, .int x4), (5, .int x5)] [] SH M) (hf : f_X12_breakfast_59 x0 x1 k26 x2 x3 x4 x5 M = some (v, MO)) : zA l yX12_breakfast cX12_breakfast 6 (some .int) 3 0 0 SH.length (zDi SH v MO) 0 0 59 [(0, .ref x0), (1, .int x1), (2, .int x2), (3, .int x3), (4, .int x4), (5, .int x5)] [] SH M := by
  unfold f_X12_breakfast_59 at hf
  refine z_iload_n dX12_breakfast_59 rfl rfl ?_
  refine z_bipush (v := 100) dX12_breakfast_60 (by decide) ?_
  refine z_icmp_eq (tgt := 88) dX12_breakfast_62 (by decide) (fun q_1 => ?_) (fun q_1 => ?_)
  · have hf := (if_pos q_1).symm.trans hf
    exact t_X12_breakfast_88 h0 hk26 hf
  · have hf := (if_neg q_1).symm.trans hf
    refine z_aload_n dX12_breakfast_65 rfl rfl ?_
    obtain ⟨a_2, ra_2, hf⟩ := z_rd_some hf
    refine zgR fl_X12_7 h0 (fun _ => rfl) ra_2 dX12_breakfast_66 (fun ha_2 => ?_)
    refine z_iload dX12_breakfast_69 rfl ?_
    refine z_iload_n dX12_breakfast_71 rfl rfl ?_
    obtain ⟨v_3, M_4, c_5, hf⟩ := z_call_some hf
    refine z_cSi (t_X12_felt  c_5) kw_X12_felt lk_X12_94 rfl (by decide) rfl (Nat.le_of_ble_eq_true rfl) ⟨Nat.le_refl 0, Nat.le_refl 0⟩ dX12_breakfast_72 ?_
    obtain ⟨g_6, hf⟩ := z_ifs hf
    refine z_iald ha_2 g_6 rfl dX12_breakfast_75 ?_
    refine z_if_le (tgt := 88) dX12_breakfast_76 (by decide) (fun q_7 => ?_) (fun q_7 => ?_)
    · have hf := (if_pos q_7).symm.trans hf
      exact t_X12_breakfast_88 h0 hk26 hf
    · have hf := (if_neg q_7).symm.trans hf
      refine z_iload dX12_breakfast_79 rfl ?_
      refine z_iconst (v := 1) dX12_breakfast_81 (by decide) ?_
      refine z_iload dX12_breakfast_82 rfl ?_
      refine z_ishl dX12_breakfast_84 ?_
      refine z_ior dX12_breakfast_85 ?_
      obtain ⟨x4_8, ex4_8, hf⟩ := zl_some hf
      refine z_istore' (lv' := [(4, .int x4_8), (0, .ref x0), (1, .int x1), (2, .int x2), (3, .int x3), (5, .int x5)]) dX12_breakfast_86 (by decide) ex4_8 rfl ?_
      refine zA.pick [(0, .ref x0), (1, .int x1), (2, .int x2), (3, .int x3), (4, .int x4_8), (5, .int x5)] [1, 2, 3, 4, 0, 5] rfl ?_
      exact t_X12_breakfast_88 h0 hk26 hf
noncomputable def f_X12_breakfast_26 (x0 : Nat) (x1 : Int32) : Nat → Int32 → Int32 → Int32 → Int32 → zM → Option (Int32 × zM)
  | 0, _, _, _, _, _ => none
  | n + 1, x2, x3, x4, x5, M =>
    (if 24 ≤ x5 then (if x1 = 100 then some (x2, M) else some (x4, M)) else (if x1 = 100 then z_call (f_X12_feltIn x0 x5 M) fun v_4 M_5 => (if v_4 ≤ x3 then (f_X12_breakfast_59 x0 x1 (f_X12_breakfast_26 x0 x1 n) x2 x3 x4 x5 M_5) else z_call (f_X12_feltIn x0 x5 M_5) fun v_8 M_9 => (f_X12_breakfast_59 x0 x1 (f_X12_breakfast_26 x0 x1 n) x5 v_8 x4 x5 M_9)) else (f_X12_breakfast_59 x0 x1 (f_X12_breakfast_26 x0 x1 n) x2 x3 x4 x5 M)))
set_option maxHeartbeats 2000000 in
set_option maxRecDepth 20000 in
theorem t_X12_breakfast_26 {l : Launch} {x0 : Nat} {x1 : Int32} {MO : zM} {v : Int32} (h0 : z_tm SH 11 x0) : ∀ (n : Nat) (x2 : Int32) (x3 : Int32) (x4 : Int32) (x5 : Int32) (M : zM), f_X12_breakfast_26 x0 x1 n x2 x3 x4 x5 M = some (v, MO) → zA l yX12_breakfast cX12_breakfast 6 (some .int) 3 0 0 SH.length (zDi SH v MO) 0 0 26 [(0, .ref x0), (1, .int x1), (2, .int x2), (3, .int x3), (4, .int x4), (5, .int x5)] [] SH M := by
  intro n
  induction n with
  | zero =>
    intro x2 x3 x4 x5 M hf
    rw [f_X12_breakfast_26] at hf
    cases hf
  | succ n ih =>
    intro x2 x3 x4 x5 M hf
    rw [f_X12_breakfast_26] at hf
    refine z_iload dX12_breakfast_26 rfl ?_
    refine z_bipush (v := 24) dX12_breakfast_28 (by decide) ?_
    refine z_icmp_ge (tgt := 94) dX12_breakfast_30 (by decide) (fun q_1 => ?_) (fun q_1 => ?_)
    · have hf := (if_pos q_1).symm.trans hf
      refine z_iload_n dX12_breakfast_94 rfl rfl ?_
      refine z_bipush (v := 100) dX12_breakfast_95 (by decide) ?_
      refine z_icmp_ne (tgt := 104) dX12_breakfast_97 (by decide) (fun q_2 => ?_) (fun q_2 => ?_)
      · have hf := (if_neg q_2).symm.trans hf
        refine z_iload dX12_breakfast_104 rfl ?_
        obtain ⟨rfl, rfl⟩ := z_end hf
        exact z_iret ⟨rfl, rfl, rfl⟩ (Or.inl rfl) dX12_breakfast_106
      · have hf := (if_pos q_2).symm.trans hf
        refine z_iload_n dX12_breakfast_100 rfl rfl ?_
        refine z_goto (tgt := 106) dX12_breakfast_101 (by decide) ?_
        obtain ⟨rfl, rfl⟩ := z_end hf
        exact z_iret ⟨rfl, rfl, rfl⟩ (Or.inl rfl) dX12_breakfast_106
    · have hf := (if_neg q_1).symm.trans hf
      refine z_iload_n dX12_breakfast_33 rfl rfl ?_
      refine z_bipush (v := 100) dX12_breakfast_34 (by decide) ?_
      refine z_icmp_ne (tgt := 59) dX12_breakfast_36 (by decide) (fun q_3 => ?_) (fun q_3 => ?_)
      · have hf := (if_neg q_3).symm.trans hf
        exact t_X12_breakfast_59 h0 ih hf
      · have hf := (if_pos q_3).symm.trans hf
        refine z_aload_n dX12_breakfast_39 rfl rfl ?_
        refine z_iload dX12_breakfast_40 rfl ?_
        obtain ⟨v_4, M_5, c_6, hf⟩ := z_call_some hf
        refine z_cVi (t_X12_feltIn h0 c_6) kw_X12_feltIn lk_X12_227 h0 rfl (by decide) rfl (Nat.le_of_ble_eq_true rfl) ⟨Nat.le_refl 0, Nat.le_refl 0⟩ dX12_breakfast_42 ?_
        refine z_iload_n dX12_breakfast_45 rfl rfl ?_
        refine z_icmp_le (tgt := 59) dX12_breakfast_46 (by decide) (fun q_7 => ?_) (fun q_7 => ?_)
        · have hf := (if_pos q_7).symm.trans hf
          exact t_X12_breakfast_59 h0 ih hf
        · have hf := (if_neg q_7).symm.trans hf
          refine z_aload_n dX12_breakfast_49 rfl rfl ?_
          refine z_iload dX12_breakfast_50 rfl ?_
          obtain ⟨v_8, M_9, c_10, hf⟩ := z_call_some hf
          refine z_cVi (t_X12_feltIn h0 c_10) kw_X12_feltIn lk_X12_227 h0 rfl (by decide) rfl (Nat.le_of_ble_eq_true rfl) ⟨Nat.le_refl 0, Nat.le_refl 0⟩ dX12_breakfast_52 ?_
          refine z_istore_n' (lv' := [(3, .int v_8), (0, .ref x0), (1, .int x1), (2, .int x2), (4, .int x4), (5, .int x5)]) rfl dX12_breakfast_55 (by decide) rfl rfl ?_
          refine z_iload dX12_breakfast_56 rfl ?_
          refine z_istore_n' (lv' := [(2, .int x5), (3, .int v_8), (0, .ref x0), (1, .int x1), (4, .int x4), (5, .int x5)]) rfl dX12_breakfast_58 (by decide) rfl rfl ?_
          refine zA.pick [(0, .ref x0), (1, .int x1), (2, .int x5), (3, .int v_8), (4, .int x4), (5, .int x5)] [2, 3, 0, 1, 4, 5] rfl ?_
          exact t_X12_breakfast_59 h0 ih hf
noncomputable def f_X12_breakfast_15 (x0 : Nat) (x1 : Int32) (M : zM) : Option (Int32 × zM) :=
  (f_X12_breakfast_26 x0 x1 zF (-2) 0 0 0 M)
set_option maxHeartbeats 2000000 in
set_option maxRecDepth 20000 in
theorem t_X12_breakfast_15 {l : Launch} {x0 : Nat} {x1 : Int32} {M MO : zM} {v : Int32} (h0 : z_tm SH 11 x0) (hf : f_X12_breakfast_15 x0 x1 M = some (v, MO)) : zA l yX12_breakfast cX12_breakfast 6 (some .int) 3 0 0 SH.length (zDi SH v MO) 0 0 15 [(0, .ref x0), (1, .int x1)] [] SH M := by
  unfold f_X12_breakfast_15 at hf
  refine z_bipush (v := (-2)) dX12_breakfast_15 (by decide) ?_
  refine z_istore_n' (lv' := [(2, .int (-2)), (0, .ref x0), (1, .int x1)]) rfl dX12_breakfast_17 (by decide) rfl rfl ?_
  refine z_iconst (v := 0) dX12_breakfast_18 (by decide) ?_
  refine z_istore_n' (lv' := [(3, .int 0), (2, .int (-2)), (0, .ref x0), (1, .int x1)]) rfl dX12_breakfast_19 (by decide) rfl rfl ?_
  refine z_iconst (v := 0) dX12_breakfast_20 (by decide) ?_
  refine z_istore' (lv' := [(4, .int 0), (3, .int 0), (2, .int (-2)), (0, .ref x0), (1, .int x1)]) dX12_breakfast_21 (by decide) rfl rfl ?_
  refine z_iconst (v := 0) dX12_breakfast_23 (by decide) ?_
  refine z_istore' (lv' := [(5, .int 0), (4, .int 0), (3, .int 0), (2, .int (-2)), (0, .ref x0), (1, .int x1)]) dX12_breakfast_24 (by decide) rfl rfl ?_
  refine zA.pick [(0, .ref x0), (1, .int x1), (2, .int (-2)), (3, .int 0), (4, .int 0), (5, .int 0)] [4, 5, 3, 2, 1, 0] rfl ?_
  exact t_X12_breakfast_26 h0 zF (-2) 0 0 0 M hf
noncomputable def f_X12_breakfast (x0 : Nat) (x1 : Int32) (M : zM) : Option (Int32 × zM) :=
  (if x1 = 100 then (f_X12_breakfast_15 x0 x1 M) else z_call (f_X12_isRoom x1 M) fun v_2 M_3 => (if v_2 = 0 then some ((-1), M_3) else (f_X12_breakfast_15 x0 x1 M_3)))
set_option maxHeartbeats 2000000 in
set_option maxRecDepth 20000 in
theorem t_X12_breakfast {l : Launch} {x0 : Nat} {x1 : Int32} {M MO : zM} {v : Int32} (h0 : z_tm SH 11 x0) (hf : f_X12_breakfast x0 x1 M = some (v, MO)) : zMet l yX12_breakfast cX12_breakfast 6 (some .int) 3 0 0 [.ref x0, .int x1] SH M (zDi SH v MO) := by
  refine zMet.of (by decide +kernel) (Nat.le_of_ble_eq_true rfl) (Or.inr (Or.inl rfl)) ?_
  show zA l yX12_breakfast cX12_breakfast 6 (some .int) 3 0 0 SH.length (zDi SH v MO) 0 0 0 [(0, .ref x0), (1, .int x1)] [] SH M
  unfold f_X12_breakfast at hf
  refine z_iload_n dX12_breakfast_0 rfl rfl ?_
  refine z_bipush (v := 100) dX12_breakfast_1 (by decide) ?_
  refine z_icmp_eq (tgt := 15) dX12_breakfast_3 (by decide) (fun q_1 => ?_) (fun q_1 => ?_)
  · have hf := (if_pos q_1).symm.trans hf
    exact t_X12_breakfast_15 h0 hf
  · have hf := (if_neg q_1).symm.trans hf
    refine z_iload_n dX12_breakfast_6 rfl rfl ?_
    obtain ⟨v_2, M_3, c_4, hf⟩ := z_call_some hf
    refine z_cSi (t_X12_isRoom  c_4) kw_X12_isRoom lk_X12_107 rfl (by decide) rfl (Nat.le_of_ble_eq_true rfl) ⟨Nat.le_refl 0, Nat.le_refl 0⟩ dX12_breakfast_7 ?_
    refine z_if_ne (tgt := 15) dX12_breakfast_10 (by decide) (fun q_5 => ?_) (fun q_5 => ?_)
    · have hf := (if_neg q_5).symm.trans hf
      exact t_X12_breakfast_15 h0 hf
    · have hf := (if_pos q_5).symm.trans hf
      refine z_iconst (v := (-1)) dX12_breakfast_13 (by decide) ?_
      obtain ⟨rfl, rfl⟩ := z_end hf
      exact z_iret ⟨rfl, rfl, rfl⟩ (Or.inl rfl) dX12_breakfast_14
noncomputable def f_X12_lowers_106 (x0 : Nat) (x1 : Int32) (x2 : Int32) (x3 : Int32) (k22 : Int32 → Int32 → zM → Option (Int32 × zM)) (x5 : Int32) (x6 : Int32) (M : zM) : Option (Int32 × zM) :=
  zl (x6 + 1) fun x6_1 => (k22 x5 x6_1 M)
set_option maxHeartbeats 2000000 in
set_option maxRecDepth 20000 in
theorem t_X12_lowers_106 {l : Launch} {x0 : Nat} {x1 : Int32} {x2 : Int32} {x3 : Int32} {k22 : Int32 → Int32 → zM → Option (Int32 × zM)} {x5 : Int32} {x6 : Int32} {M MO : zM} {v : Int32} (h0 : z_tm SH 11 x0) (hk22 : ∀ (x5 : Int32) (x6 : Int32) (M : zM), k22 x5 x6 M = some (v, MO) → zA l yX12_lowers cX12_lowers 8 (some .boolean) 1 0 0 SH.length (zDi SH v MO) 0 0 22 [(0, .ref x0), (1, .int x1), (2, .int x2), (3, .int x3), (5, .int x5), (6, .int x6)] [] SH M) (hf : f_X12_lowers_106 x0 x1 x2 x3 k22 x5 x6 M = some (v, MO)) : zA l yX12_lowers cX12_lowers 8 (some .boolean) 1 0 0 SH.length (zDi SH v MO) 0 0 106 [(0, .ref x0), (1, .int x1), (2, .int x2), (3, .int x3), (5, .int x5), (6, .int x6)] [] SH M := by
  unfold f_X12_lowers_106 at hf
  obtain ⟨x6_1, ex6_1, hf⟩ := zl_some hf
  refine z_iinc' (lv' := [(6, .int x6_1), (0, .ref x0), (1, .int x1), (2, .int x2), (3, .int x3), (5, .int x5)]) dX12_lowers_106 rfl (by decide) ex6_1 (by decide) rfl ?_
  refine z_goto (tgt := 22) dX12_lowers_109 (by decide) ?_
  refine zA.pick [(0, .ref x0), (1, .int x1), (2, .int x2), (3, .int x3), (5, .int x5), (6, .int x6_1)] [1, 2, 3, 4, 5, 0] rfl ?_
  exact hk22 x5 x6_1 M hf
noncomputable def f_X12_lowers_53 (x0 : Nat) (x1 : Int32) (x2 : Int32) (x3 : Int32) (k22 : Int32 → Int32 → zM → Option (Int32 × zM)) (x5 : Int32) (x6 : Int32) (s0 : Int32) (s1 : Int32) (M : zM) : Option (Int32 × zM) :=
  zl ((s0 + s1)) fun x7_1 => z_rd (M.2.1 x0 38) fun a_2 => if z_ix ((3 * x1) + x6) (z_ln SH a_2) = true then (if 1000000 ≤ (M.1 a_2 (((3 * x1) + x6) : Int32).toNatClampNeg) then (f_X12_lowers_106 x0 x1 x2 x3 k22 x5 x6 M) else z_rd (M.2.1 x0 38) fun a_5 => if z_ix ((3 * x2) + x3) (z_ln SH a_5) = true then (if x7_1 < (M.1 a_5 (((3 * x2) + x3) : Int32).toNatClampNeg) then z_rd (M.2.1 x0 38) fun a_8 => if z_ix ((3 * x2) + x3) (z_ln SH a_8) = true then zl (zu M.1 a_8 (((3 * x2) + x3) : Int32).toNatClampNeg x7_1, M.2) fun M_10 => (f_X12_lowers_106 x0 x1 x2 x3 k22 1 x6 M_10) else none else (f_X12_lowers_106 x0 x1 x2 x3 k22 x5 x6 M)) else none) else none
set_option maxHeartbeats 2000000 in
set_option maxRecDepth 20000 in
theorem t_X12_lowers_53 {l : Launch} {x0 : Nat} {x1 : Int32} {x2 : Int32} {x3 : Int32} {k22 : Int32 → Int32 → zM → Option (Int32 × zM)} {x5 : Int32} {x6 : Int32} {s0 : Int32} {s1 : Int32} {M MO : zM} {v : Int32} (h0 : z_tm SH 11 x0) (hk22 : ∀ (x5 : Int32) (x6 : Int32) (M : zM), k22 x5 x6 M = some (v, MO) → zA l yX12_lowers cX12_lowers 8 (some .boolean) 1 0 0 SH.length (zDi SH v MO) 0 0 22 [(0, .ref x0), (1, .int x1), (2, .int x2), (3, .int x3), (5, .int x5), (6, .int x6)] [] SH M) (hf : f_X12_lowers_53 x0 x1 x2 x3 k22 x5 x6 s0 s1 M = some (v, MO)) : zA l yX12_lowers cX12_lowers 8 (some .boolean) 1 0 0 SH.length (zDi SH v MO) 0 0 53 [(0, .ref x0), (1, .int x1), (2, .int x2), (3, .int x3), (5, .int x5), (6, .int x6)] [.int s1, .int s0] SH M := by
  unfold f_X12_lowers_53 at hf
  refine z_iadd dX12_lowers_53 ?_
  obtain ⟨x7_1, ex7_1, hf⟩ := zl_some hf
  refine z_istore' (lv' := [(7, .int x7_1), (0, .ref x0), (1, .int x1), (2, .int x2), (3, .int x3), (5, .int x5), (6, .int x6)]) dX12_lowers_54 (by decide) ex7_1 rfl ?_
  refine z_aload_n dX12_lowers_56 rfl rfl ?_
  obtain ⟨a_2, ra_2, hf⟩ := z_rd_some hf
  refine zgR fl_X12_84 h0 (fun _ => rfl) ra_2 dX12_lowers_57 (fun ha_2 => ?_)
  refine z_iconst (v := 3) dX12_lowers_60 (by decide) ?_
  refine z_iload_n dX12_lowers_61 rfl rfl ?_
  refine z_imul dX12_lowers_62 ?_
  refine z_iload dX12_lowers_63 rfl ?_
  refine z_iadd dX12_lowers_65 ?_
  obtain ⟨g_3, hf⟩ := z_ifs hf
  refine z_iald ha_2 g_3 rfl dX12_lowers_66 ?_
  refine z_ldcw (v := 1000000) dX12_lowers_67 cn_X12_312 ?_
  refine z_icmp_ge (tgt := 106) dX12_lowers_70 (by decide) (fun q_4 => ?_) (fun q_4 => ?_)
  · have hf := (if_pos q_4).symm.trans hf
    refine zA.pick [(0, .ref x0), (1, .int x1), (2, .int x2), (3, .int x3), (5, .int x5), (6, .int x6)] [1, 2, 3, 4, 5, 6] rfl ?_
    exact t_X12_lowers_106 h0 hk22 hf
  · have hf := (if_neg q_4).symm.trans hf
    refine z_iload dX12_lowers_73 rfl ?_
    refine z_aload_n dX12_lowers_75 rfl rfl ?_
    obtain ⟨a_5, ra_5, hf⟩ := z_rd_some hf
    refine zgR fl_X12_84 h0 (fun _ => rfl) ra_5 dX12_lowers_76 (fun ha_5 => ?_)
    refine z_iconst (v := 3) dX12_lowers_79 (by decide) ?_
    refine z_iload_n dX12_lowers_80 rfl rfl ?_
    refine z_imul dX12_lowers_81 ?_
    refine z_iload_n dX12_lowers_82 rfl rfl ?_
    refine z_iadd dX12_lowers_83 ?_
    obtain ⟨g_6, hf⟩ := z_ifs hf
    refine z_iald ha_5 g_6 rfl dX12_lowers_84 ?_
    refine z_icmp_lt (tgt := 91) dX12_lowers_85 (by decide) (fun q_7 => ?_) (fun q_7 => ?_)
    · have hf := (if_pos q_7).symm.trans hf
      refine z_aload_n dX12_lowers_91 rfl rfl ?_
      obtain ⟨a_8, ra_8, hf⟩ := z_rd_some hf
      refine zgR fl_X12_84 h0 (fun _ => rfl) ra_8 dX12_lowers_92 (fun ha_8 => ?_)
      refine z_iconst (v := 3) dX12_lowers_95 (by decide) ?_
      refine z_iload_n dX12_lowers_96 rfl rfl ?_
      refine z_imul dX12_lowers_97 ?_
      refine z_iload_n dX12_lowers_98 rfl rfl ?_
      refine z_iadd dX12_lowers_99 ?_
      refine z_iload dX12_lowers_100 rfl ?_
      obtain ⟨g_9, hf⟩ := z_ifs hf
      obtain ⟨M_10, eM_10, hf⟩ := zl_some hf
      refine z_iast ha_8 g_9 eM_10 dX12_lowers_102 ?_
      refine z_iconst (v := 1) dX12_lowers_103 (by decide) ?_
      refine z_istore' (lv' := [(5, .int 1), (7, .int x7_1), (0, .ref x0), (1, .int x1), (2, .int x2), (3, .int x3), (6, .int x6)]) dX12_lowers_104 (by decide) rfl rfl ?_
      refine zA.pick [(0, .ref x0), (1, .int x1), (2, .int x2), (3, .int x3), (5, .int 1), (6, .int x6)] [2, 3, 4, 5, 0, 6] rfl ?_
      exact t_X12_lowers_106 h0 hk22 hf
    · have hf := (if_neg q_7).symm.trans hf
      refine z_goto (tgt := 106) dX12_lowers_88 (by decide) ?_
      refine zA.pick [(0, .ref x0), (1, .int x1), (2, .int x2), (3, .int x3), (5, .int x5), (6, .int x6)] [1, 2, 3, 4, 5, 6] rfl ?_
      exact t_X12_lowers_106 h0 hk22 hf
noncomputable def f_X12_lowers_22 (x0 : Nat) (x1 : Int32) (x2 : Int32) (x3 : Int32) : Nat → Int32 → Int32 → zM → Option (Int32 × zM)
  | 0, _, _, _ => none
  | n + 1, x5, x6, M =>
    (if 3 ≤ x6 then if ((x5 : Int32) = 0 ∨ (x5 : Int32) = 1) then some (x5, M) else none else z_rd (M.2.1 x0 38) fun a_3 => if z_ix ((3 * x1) + x6) (z_ln SH a_3) = true then (if x6 = x3 then (f_X12_lowers_53 x0 x1 x2 x3 (f_X12_lowers_22 x0 x1 x2 x3 n) x5 x6 ((M.1 a_3 (((3 * x1) + x6) : Int32).toNatClampNeg) + 1) 0 M) else (f_X12_lowers_53 x0 x1 x2 x3 (f_X12_lowers_22 x0 x1 x2 x3 n) x5 x6 ((M.1 a_3 (((3 * x1) + x6) : Int32).toNatClampNeg) + 1) 100 M)) else none)
set_option maxHeartbeats 2000000 in
set_option maxRecDepth 20000 in
theorem t_X12_lowers_22 {l : Launch} {x0 : Nat} {x1 : Int32} {x2 : Int32} {x3 : Int32} {MO : zM} {v : Int32} (h0 : z_tm SH 11 x0) : ∀ (n : Nat) (x5 : Int32) (x6 : Int32) (M : zM), f_X12_lowers_22 x0 x1 x2 x3 n x5 x6 M = some (v, MO) → zA l yX12_lowers cX12_lowers 8 (some .boolean) 1 0 0 SH.length (zDi SH v MO) 0 0 22 [(0, .ref x0), (1, .int x1), (2, .int x2), (3, .int x3), (5, .int x5), (6, .int x6)] [] SH M := by
  intro n
  induction n with
  | zero =>
    intro x5 x6 M hf
    rw [f_X12_lowers_22] at hf
    cases hf
  | succ n ih =>
    intro x5 x6 M hf
    rw [f_X12_lowers_22] at hf
    refine z_iload dX12_lowers_22 rfl ?_
    refine z_iconst (v := 3) dX12_lowers_24 (by decide) ?_
    refine z_icmp_ge (tgt := 112) dX12_lowers_25 (by decide) (fun q_1 => ?_) (fun q_1 => ?_)
    · have hf := (if_pos q_1).symm.trans hf
      refine z_iload dX12_lowers_112 rfl ?_
      obtain ⟨g_2, hf⟩ := z_ifs hf
      obtain ⟨rfl, rfl⟩ := z_end hf
      exact z_iret ⟨rfl, rfl, rfl⟩ (Or.inr ⟨rfl, g_2⟩) dX12_lowers_114
    · have hf := (if_neg q_1).symm.trans hf
      refine z_aload_n dX12_lowers_28 rfl rfl ?_
      obtain ⟨a_3, ra_3, hf⟩ := z_rd_some hf
      refine zgR fl_X12_84 h0 (fun _ => rfl) ra_3 dX12_lowers_29 (fun ha_3 => ?_)
      refine z_iconst (v := 3) dX12_lowers_32 (by decide) ?_
      refine z_iload_n dX12_lowers_33 rfl rfl ?_
      refine z_imul dX12_lowers_34 ?_
      refine z_iload dX12_lowers_35 rfl ?_
      refine z_iadd dX12_lowers_37 ?_
      obtain ⟨g_4, hf⟩ := z_ifs hf
      refine z_iald ha_3 g_4 rfl dX12_lowers_38 ?_
      refine z_iconst (v := 1) dX12_lowers_39 (by decide) ?_
      refine z_iadd dX12_lowers_40 ?_
      refine z_iload dX12_lowers_41 rfl ?_
      refine z_iload_n dX12_lowers_43 rfl rfl ?_
      refine z_icmp_ne (tgt := 51) dX12_lowers_44 (by decide) (fun q_5 => ?_) (fun q_5 => ?_)
      · have hf := (if_neg q_5).symm.trans hf
        refine z_bipush (v := 100) dX12_lowers_51 (by decide) ?_
        exact t_X12_lowers_53 h0 ih hf
      · have hf := (if_pos q_5).symm.trans hf
        refine z_iconst (v := 0) dX12_lowers_47 (by decide) ?_
        refine z_goto (tgt := 53) dX12_lowers_48 (by decide) ?_
        exact t_X12_lowers_53 h0 ih hf
noncomputable def f_X12_lowers (x0 : Nat) (x1 : Int32) (x2 : Int32) (x3 : Int32) (x4 : Int32) (M : zM) : Option (Int32 × zM) :=
  z_rd (M.2.1 x0 0) fun a_1 => if z_ix (96 + x2) (z_ln SH a_1) = true then (if (M.1 a_1 ((96 + x2) : Int32).toNatClampNeg) ≤ x4 then (f_X12_lowers_22 x0 x1 x2 x3 zF 0 0 M) else some (0, M)) else none
set_option maxHeartbeats 2000000 in
set_option maxRecDepth 20000 in
theorem t_X12_lowers {l : Launch} {x0 : Nat} {x1 : Int32} {x2 : Int32} {x3 : Int32} {x4 : Int32} {M MO : zM} {v : Int32} (h0 : z_tm SH 11 x0) (hf : f_X12_lowers x0 x1 x2 x3 x4 M = some (v, MO)) : zMet l yX12_lowers cX12_lowers 8 (some .boolean) 1 0 0 [.ref x0, .int x1, .int x2, .int x3, .int x4] SH M (zDi SH v MO) := by
  refine zMet.of (by decide +kernel) (Nat.le_of_ble_eq_true rfl) (Or.inr (Or.inr (Or.inl rfl))) ?_
  show zA l yX12_lowers cX12_lowers 8 (some .boolean) 1 0 0 SH.length (zDi SH v MO) 0 0 0 [(0, .ref x0), (1, .int x1), (2, .int x2), (3, .int x3), (4, .int x4)] [] SH M
  unfold f_X12_lowers at hf
  refine z_aload_n dX12_lowers_0 rfl rfl ?_
  obtain ⟨a_1, ra_1, hf⟩ := z_rd_some hf
  refine zgR fl_X12_7 h0 (fun _ => rfl) ra_1 dX12_lowers_1 (fun ha_1 => ?_)
  refine z_bipush (v := 96) dX12_lowers_4 (by decide) ?_
  refine z_iload_n dX12_lowers_6 rfl rfl ?_
  refine z_iadd dX12_lowers_7 ?_
  obtain ⟨g_2, hf⟩ := z_ifs hf
  refine z_iald ha_1 g_2 rfl dX12_lowers_8 ?_
  refine z_iload dX12_lowers_9 rfl ?_
  refine z_icmp_le (tgt := 16) dX12_lowers_11 (by decide) (fun q_3 => ?_) (fun q_3 => ?_)
  · have hf := (if_pos q_3).symm.trans hf
    refine z_iconst (v := 0) dX12_lowers_16 (by decide) ?_
    refine z_istore' (lv' := [(5, .int 0), (0, .ref x0), (1, .int x1), (2, .int x2), (3, .int x3), (4, .int x4)]) dX12_lowers_17 (by decide) rfl rfl ?_
    refine z_iconst (v := 0) dX12_lowers_19 (by decide) ?_
    refine z_istore' (lv' := [(6, .int 0), (5, .int 0), (0, .ref x0), (1, .int x1), (2, .int x2), (3, .int x3), (4, .int x4)]) dX12_lowers_20 (by decide) rfl rfl ?_
    refine zA.pick [(0, .ref x0), (1, .int x1), (2, .int x2), (3, .int x3), (5, .int 0), (6, .int 0)] [2, 3, 4, 5, 1, 0] rfl ?_
    exact t_X12_lowers_22 h0 zF 0 0 M hf
  · have hf := (if_neg q_3).symm.trans hf
    refine z_iconst (v := 0) dX12_lowers_14 (by decide) ?_
    obtain ⟨rfl, rfl⟩ := z_end hf
    exact z_iret ⟨rfl, rfl, rfl⟩ (Or.inr ⟨rfl, (Or.inl rfl)⟩) dX12_lowers_15
noncomputable def f_X12_lowersAll_75 (x0 : Nat) (x1 : Int32) (k4 : Int32 → Int32 → zM → Option (Int32 × zM)) (x2 : Int32) (x3 : Int32) (M : zM) : Option (Int32 × zM) :=
  zl (x3 + 1) fun x3_1 => (k4 x2 x3_1 M)
set_option maxHeartbeats 2000000 in
set_option maxRecDepth 20000 in
theorem t_X12_lowersAll_75 {l : Launch} {x0 : Nat} {x1 : Int32} {k4 : Int32 → Int32 → zM → Option (Int32 × zM)} {x2 : Int32} {x3 : Int32} {M MO : zM} {v : Int32} (h0 : z_tm SH 11 x0) (hk4 : ∀ (x2 : Int32) (x3 : Int32) (M : zM), k4 x2 x3 M = some (v, MO) → zA l yX12_lowersAll cX12_lowersAll 4 (some .boolean) 2 0 0 SH.length (zDi SH v MO) 0 0 4 [(0, .ref x0), (1, .int x1), (2, .int x2), (3, .int x3)] [] SH M) (hf : f_X12_lowersAll_75 x0 x1 k4 x2 x3 M = some (v, MO)) : zA l yX12_lowersAll cX12_lowersAll 4 (some .boolean) 2 0 0 SH.length (zDi SH v MO) 0 0 75 [(0, .ref x0), (1, .int x1), (2, .int x2), (3, .int x3)] [] SH M := by
  unfold f_X12_lowersAll_75 at hf
  obtain ⟨x3_1, ex3_1, hf⟩ := zl_some hf
  refine z_iinc' (lv' := [(3, .int x3_1), (0, .ref x0), (1, .int x1), (2, .int x2)]) dX12_lowersAll_75 rfl (by decide) ex3_1 (by decide) rfl ?_
  refine z_goto (tgt := 4) dX12_lowersAll_78 (by decide) ?_
  refine zA.pick [(0, .ref x0), (1, .int x1), (2, .int x2), (3, .int x3_1)] [1, 2, 3, 0] rfl ?_
  exact hk4 x2 x3_1 M hf
noncomputable def f_X12_lowersAll_54 (x0 : Nat) (x1 : Int32) (k4 : Int32 → Int32 → zM → Option (Int32 × zM)) (x2 : Int32) (x3 : Int32) (M : zM) : Option (Int32 × zM) :=
  (if (x3 - x3 / 4 * 4) ≤ 0 then (f_X12_lowersAll_75 x0 x1 k4 x2 x3 M) else z_call (f_X12_lowers x0 (x3 - 1) x3 2 x1 M) fun v_2 M_3 => (if v_2 = 0 then (f_X12_lowersAll_75 x0 x1 k4 x2 x3 M_3) else (f_X12_lowersAll_75 x0 x1 k4 1 x3 M_3)))
set_option maxHeartbeats 2000000 in
set_option maxRecDepth 20000 in
theorem t_X12_lowersAll_54 {l : Launch} {x0 : Nat} {x1 : Int32} {k4 : Int32 → Int32 → zM → Option (Int32 × zM)} {x2 : Int32} {x3 : Int32} {M MO : zM} {v : Int32} (h0 : z_tm SH 11 x0) (hk4 : ∀ (x2 : Int32) (x3 : Int32) (M : zM), k4 x2 x3 M = some (v, MO) → zA l yX12_lowersAll cX12_lowersAll 4 (some .boolean) 2 0 0 SH.length (zDi SH v MO) 0 0 4 [(0, .ref x0), (1, .int x1), (2, .int x2), (3, .int x3)] [] SH M) (hf : f_X12_lowersAll_54 x0 x1 k4 x2 x3 M = some (v, MO)) : zA l yX12_lowersAll cX12_lowersAll 4 (some .boolean) 2 0 0 SH.length (zDi SH v MO) 0 0 54 [(0, .ref x0), (1, .int x1), (2, .int x2), (3, .int x3)] [] SH M := by
  unfold f_X12_lowersAll_54 at hf
  refine z_iload_n dX12_lowersAll_54 rfl rfl ?_
  refine z_iconst (v := 4) dX12_lowersAll_55 (by decide) ?_
  refine z_irem dX12_lowersAll_56 (by decide) ?_
  refine z_if_le (tgt := 75) dX12_lowersAll_57 (by decide) (fun q_1 => ?_) (fun q_1 => ?_)
  · have hf := (if_pos q_1).symm.trans hf
    exact t_X12_lowersAll_75 h0 hk4 hf
  · have hf := (if_neg q_1).symm.trans hf
    refine z_aload_n dX12_lowersAll_60 rfl rfl ?_
    refine z_iload_n dX12_lowersAll_61 rfl rfl ?_
    refine z_iconst (v := 1) dX12_lowersAll_62 (by decide) ?_
    refine z_isub dX12_lowersAll_63 ?_
    refine z_iload_n dX12_lowersAll_64 rfl rfl ?_
    refine z_iconst (v := 2) dX12_lowersAll_65 (by decide) ?_
    refine z_iload_n dX12_lowersAll_66 rfl rfl ?_
    obtain ⟨v_2, M_3, c_4, hf⟩ := z_call_some hf
    refine z_cVi (t_X12_lowers h0 c_4) kw_X12_lowers lk_X12_344 h0 rfl (by decide) rfl (Nat.le_of_ble_eq_true rfl) ⟨Nat.le_refl 0, Nat.le_refl 0⟩ dX12_lowersAll_67 ?_
    refine z_if_eq (tgt := 75) dX12_lowersAll_70 (by decide) (fun q_5 => ?_) (fun q_5 => ?_)
    · have hf := (if_pos q_5).symm.trans hf
      exact t_X12_lowersAll_75 h0 hk4 hf
    · have hf := (if_neg q_5).symm.trans hf
      refine z_iconst (v := 1) dX12_lowersAll_73 (by decide) ?_
      refine z_istore_n' (lv' := [(2, .int 1), (0, .ref x0), (1, .int x1), (3, .int x3)]) rfl dX12_lowersAll_74 (by decide) rfl rfl ?_
      refine zA.pick [(0, .ref x0), (1, .int x1), (2, .int 1), (3, .int x3)] [1, 2, 0, 3] rfl ?_
      exact t_X12_lowersAll_75 h0 hk4 hf
noncomputable def f_X12_lowersAll_32 (x0 : Nat) (x1 : Int32) (k4 : Int32 → Int32 → zM → Option (Int32 × zM)) (x2 : Int32) (x3 : Int32) (M : zM) : Option (Int32 × zM) :=
  (if 3 ≤ (x3 - x3 / 4 * 4) then (f_X12_lowersAll_54 x0 x1 k4 x2 x3 M) else z_call (f_X12_lowers x0 (x3 + 1) x3 1 x1 M) fun v_2 M_3 => (if v_2 = 0 then (f_X12_lowersAll_54 x0 x1 k4 x2 x3 M_3) else (f_X12_lowersAll_54 x0 x1 k4 1 x3 M_3)))
set_option maxHeartbeats 2000000 in
set_option maxRecDepth 20000 in
theorem t_X12_lowersAll_32 {l : Launch} {x0 : Nat} {x1 : Int32} {k4 : Int32 → Int32 → zM → Option (Int32 × zM)} {x2 : Int32} {x3 : Int32} {M MO : zM} {v : Int32} (h0 : z_tm SH 11 x0) (hk4 : ∀ (x2 : Int32) (x3 : Int32) (M : zM), k4 x2 x3 M = some (v, MO) → zA l yX12_lowersAll cX12_lowersAll 4 (some .boolean) 2 0 0 SH.length (zDi SH v MO) 0 0 4 [(0, .ref x0), (1, .int x1), (2, .int x2), (3, .int x3)] [] SH M) (hf : f_X12_lowersAll_32 x0 x1 k4 x2 x3 M = some (v, MO)) : zA l yX12_lowersAll cX12_lowersAll 4 (some .boolean) 2 0 0 SH.length (zDi SH v MO) 0 0 32 [(0, .ref x0), (1, .int x1), (2, .int x2), (3, .int x3)] [] SH M := by
  unfold f_X12_lowersAll_32 at hf
  refine z_iload_n dX12_lowersAll_32 rfl rfl ?_
  refine z_iconst (v := 4) dX12_lowersAll_33 (by decide) ?_
  refine z_irem dX12_lowersAll_34 (by decide) ?_
  refine z_iconst (v := 3) dX12_lowersAll_35 (by decide) ?_
  refine z_icmp_ge (tgt := 54) dX12_lowersAll_36 (by decide) (fun q_1 => ?_) (fun q_1 => ?_)
  · have hf := (if_pos q_1).symm.trans hf
    exact t_X12_lowersAll_54 h0 hk4 hf
  · have hf := (if_neg q_1).symm.trans hf
    refine z_aload_n dX12_lowersAll_39 rfl rfl ?_
    refine z_iload_n dX12_lowersAll_40 rfl rfl ?_
    refine z_iconst (v := 1) dX12_lowersAll_41 (by decide) ?_
    refine z_iadd dX12_lowersAll_42 ?_
    refine z_iload_n dX12_lowersAll_43 rfl rfl ?_
    refine z_iconst (v := 1) dX12_lowersAll_44 (by decide) ?_
    refine z_iload_n dX12_lowersAll_45 rfl rfl ?_
    obtain ⟨v_2, M_3, c_4, hf⟩ := z_call_some hf
    refine z_cVi (t_X12_lowers h0 c_4) kw_X12_lowers lk_X12_344 h0 rfl (by decide) rfl (Nat.le_of_ble_eq_true rfl) ⟨Nat.le_refl 0, Nat.le_refl 0⟩ dX12_lowersAll_46 ?_
    refine z_if_eq (tgt := 54) dX12_lowersAll_49 (by decide) (fun q_5 => ?_) (fun q_5 => ?_)
    · have hf := (if_pos q_5).symm.trans hf
      exact t_X12_lowersAll_54 h0 hk4 hf
    · have hf := (if_neg q_5).symm.trans hf
      refine z_iconst (v := 1) dX12_lowersAll_52 (by decide) ?_
      refine z_istore_n' (lv' := [(2, .int 1), (0, .ref x0), (1, .int x1), (3, .int x3)]) rfl dX12_lowersAll_53 (by decide) rfl rfl ?_
      refine zA.pick [(0, .ref x0), (1, .int x1), (2, .int 1), (3, .int x3)] [1, 2, 0, 3] rfl ?_
      exact t_X12_lowersAll_54 h0 hk4 hf
noncomputable def f_X12_lowersAll_4 (x0 : Nat) (x1 : Int32) : Nat → Int32 → Int32 → zM → Option (Int32 × zM)
  | 0, _, _, _ => none
  | n + 1, x2, x3, M =>
    (if 24 ≤ x3 then if ((x2 : Int32) = 0 ∨ (x2 : Int32) = 1) then some (x2, M) else none else (if 5 ≤ (x3 / 4) then (f_X12_lowersAll_32 x0 x1 (f_X12_lowersAll_4 x0 x1 n) x2 x3 M) else z_call (f_X12_lowers x0 (x3 + 4) x3 0 x1 M) fun v_4 M_5 => (if v_4 = 0 then (f_X12_lowersAll_32 x0 x1 (f_X12_lowersAll_4 x0 x1 n) x2 x3 M_5) else (f_X12_lowersAll_32 x0 x1 (f_X12_lowersAll_4 x0 x1 n) 1 x3 M_5))))
set_option maxHeartbeats 2000000 in
set_option maxRecDepth 20000 in
theorem t_X12_lowersAll_4 {l : Launch} {x0 : Nat} {x1 : Int32} {MO : zM} {v : Int32} (h0 : z_tm SH 11 x0) : ∀ (n : Nat) (x2 : Int32) (x3 : Int32) (M : zM), f_X12_lowersAll_4 x0 x1 n x2 x3 M = some (v, MO) → zA l yX12_lowersAll cX12_lowersAll 4 (some .boolean) 2 0 0 SH.length (zDi SH v MO) 0 0 4 [(0, .ref x0), (1, .int x1), (2, .int x2), (3, .int x3)] [] SH M := by
  intro n
  induction n with
  | zero =>
    intro x2 x3 M hf
    rw [f_X12_lowersAll_4] at hf
    cases hf
  | succ n ih =>
    intro x2 x3 M hf
    rw [f_X12_lowersAll_4] at hf
    refine z_iload_n dX12_lowersAll_4 rfl rfl ?_
    refine z_bipush (v := 24) dX12_lowersAll_5 (by decide) ?_
    refine z_icmp_ge (tgt := 81) dX12_lowersAll_7 (by decide) (fun q_1 => ?_) (fun q_1 => ?_)
    · have hf := (if_pos q_1).symm.trans hf
      refine z_iload_n dX12_lowersAll_81 rfl rfl ?_
      obtain ⟨g_2, hf⟩ := z_ifs hf
      obtain ⟨rfl, rfl⟩ := z_end hf
      exact z_iret ⟨rfl, rfl, rfl⟩ (Or.inr ⟨rfl, g_2⟩) dX12_lowersAll_82
    · have hf := (if_neg q_1).symm.trans hf
      refine z_iload_n dX12_lowersAll_10 rfl rfl ?_
      refine z_iconst (v := 4) dX12_lowersAll_11 (by decide) ?_
      refine z_idiv dX12_lowersAll_12 (by decide) ?_
      refine z_iconst (v := 5) dX12_lowersAll_13 (by decide) ?_
      refine z_icmp_ge (tgt := 32) dX12_lowersAll_14 (by decide) (fun q_3 => ?_) (fun q_3 => ?_)
      · have hf := (if_pos q_3).symm.trans hf
        exact t_X12_lowersAll_32 h0 ih hf
      · have hf := (if_neg q_3).symm.trans hf
        refine z_aload_n dX12_lowersAll_17 rfl rfl ?_
        refine z_iload_n dX12_lowersAll_18 rfl rfl ?_
        refine z_iconst (v := 4) dX12_lowersAll_19 (by decide) ?_
        refine z_iadd dX12_lowersAll_20 ?_
        refine z_iload_n dX12_lowersAll_21 rfl rfl ?_
        refine z_iconst (v := 0) dX12_lowersAll_22 (by decide) ?_
        refine z_iload_n dX12_lowersAll_23 rfl rfl ?_
        obtain ⟨v_4, M_5, c_6, hf⟩ := z_call_some hf
        refine z_cVi (t_X12_lowers h0 c_6) kw_X12_lowers lk_X12_344 h0 rfl (by decide) rfl (Nat.le_of_ble_eq_true rfl) ⟨Nat.le_refl 0, Nat.le_refl 0⟩ dX12_lowersAll_24 ?_
        refine z_if_eq (tgt := 32) dX12_lowersAll_27 (by decide) (fun q_7 => ?_) (fun q_7 => ?_)
        · have hf := (if_pos q_7).symm.trans hf
          exact t_X12_lowersAll_32 h0 ih hf
        · have hf := (if_neg q_7).symm.trans hf
          refine z_iconst (v := 1) dX12_lowersAll_30 (by decide) ?_
          refine z_istore_n' (lv' := [(2, .int 1), (0, .ref x0), (1, .int x1), (3, .int x3)]) rfl dX12_lowersAll_31 (by decide) rfl rfl ?_
          refine zA.pick [(0, .ref x0), (1, .int x1), (2, .int 1), (3, .int x3)] [1, 2, 0, 3] rfl ?_
          exact t_X12_lowersAll_32 h0 ih hf
noncomputable def f_X12_lowersAll (x0 : Nat) (x1 : Int32) (M : zM) : Option (Int32 × zM) :=
  (f_X12_lowersAll_4 x0 x1 zF 0 0 M)
set_option maxHeartbeats 2000000 in
set_option maxRecDepth 20000 in
theorem t_X12_lowersAll {l : Launch} {x0 : Nat} {x1 : Int32} {M MO : zM} {v : Int32} (h0 : z_tm SH 11 x0) (hf : f_X12_lowersAll x0 x1 M = some (v, MO)) : zMet l yX12_lowersAll cX12_lowersAll 4 (some .boolean) 2 0 0 [.ref x0, .int x1] SH M (zDi SH v MO) := by
  refine zMet.of (by decide +kernel) (Nat.le_of_ble_eq_true rfl) (Or.inr (Or.inr (Or.inl rfl))) ?_
  show zA l yX12_lowersAll cX12_lowersAll 4 (some .boolean) 2 0 0 SH.length (zDi SH v MO) 0 0 0 [(0, .ref x0), (1, .int x1)] [] SH M
  unfold f_X12_lowersAll at hf
  refine z_iconst (v := 0) dX12_lowersAll_0 (by decide) ?_
  refine z_istore_n' (lv' := [(2, .int 0), (0, .ref x0), (1, .int x1)]) rfl dX12_lowersAll_1 (by decide) rfl rfl ?_
  refine z_iconst (v := 0) dX12_lowersAll_2 (by decide) ?_
  refine z_istore_n' (lv' := [(3, .int 0), (2, .int 0), (0, .ref x0), (1, .int x1)]) rfl dX12_lowersAll_3 (by decide) rfl rfl ?_
  refine zA.pick [(0, .ref x0), (1, .int x1), (2, .int 0), (3, .int 0)] [2, 3, 1, 0] rfl ?_
  exact t_X12_lowersAll_4 h0 zF 0 0 M hf
noncomputable def f_X12_ropes_99 (x0 : Nat) (x1 : Int32) (x2 : Int32) (x3 : Int32) : Nat → Int32 → zM → Option (Int32 × zM)
  | 0, _, _ => none
  | n + 1, x4, M =>
    (if x4 = 0 then z_rd (M.2.1 x0 38) fun a_2 => if z_ix (3 * x1) (z_ln SH a_2) = true then z_rd (M.2.1 x0 38) fun a_4 => if z_ix ((3 * x1) + 1) (z_ln SH a_4) = true then z_rd (M.2.1 x0 38) fun a_6 => if z_ix ((3 * x1) + 2) (z_ln SH a_6) = true then z_call (f_X12_min (M.1 a_4 (((3 * x1) + 1) : Int32).toNatClampNeg) (M.1 a_6 (((3 * x1) + 2) : Int32).toNatClampNeg) M) fun v_8 M_9 => z_call (f_X12_min (M.1 a_2 ((3 * x1) : Int32).toNatClampNeg) v_8 M_9) fun v_11 M_12 => (if v_11 < 1000000 then (if x3 = 0 then some ((v_11 / 100), M_12) else some ((v_11 - v_11 / 100 * 100), M_12)) else some ((-2), M_12)) else none else none else none else z_call (f_X12_lowersAll x0 x2 M) fun v_16 M_17 => (f_X12_ropes_99 x0 x1 x2 x3 n v_16 M_17))
set_option maxHeartbeats 2000000 in
set_option maxRecDepth 20000 in
theorem t_X12_ropes_99 {l : Launch} {x0 : Nat} {x1 : Int32} {x2 : Int32} {x3 : Int32} {MO : zM} {v : Int32} (h0 : z_tm SH 11 x0) : ∀ (n : Nat) (x4 : Int32) (M : zM), f_X12_ropes_99 x0 x1 x2 x3 n x4 M = some (v, MO) → zA l yX12_ropes cX12_ropes 6 (some .int) 3 0 0 SH.length (zDi SH v MO) 0 0 99 [(0, .ref x0), (1, .int x1), (2, .int x2), (3, .int x3), (4, .int x4)] [] SH M := by
  intro n
  induction n with
  | zero =>
    intro x4 M hf
    rw [f_X12_ropes_99] at hf
    cases hf
  | succ n ih =>
    intro x4 M hf
    rw [f_X12_ropes_99] at hf
    refine z_iload dX12_ropes_99 rfl ?_
    refine z_if_eq (tgt := 114) dX12_ropes_101 (by decide) (fun q_1 => ?_) (fun q_1 => ?_)
    · have hf := (if_pos q_1).symm.trans hf
      refine z_aload_n dX12_ropes_114 rfl rfl ?_
      obtain ⟨a_2, ra_2, hf⟩ := z_rd_some hf
      refine zgR fl_X12_84 h0 (fun _ => rfl) ra_2 dX12_ropes_115 (fun ha_2 => ?_)
      refine z_iconst (v := 3) dX12_ropes_118 (by decide) ?_
      refine z_iload_n dX12_ropes_119 rfl rfl ?_
      refine z_imul dX12_ropes_120 ?_
      obtain ⟨g_3, hf⟩ := z_ifs hf
      refine z_iald ha_2 g_3 rfl dX12_ropes_121 ?_
      refine z_aload_n dX12_ropes_122 rfl rfl ?_
      obtain ⟨a_4, ra_4, hf⟩ := z_rd_some hf
      refine zgR fl_X12_84 h0 (fun _ => rfl) ra_4 dX12_ropes_123 (fun ha_4 => ?_)
      refine z_iconst (v := 3) dX12_ropes_126 (by decide) ?_
      refine z_iload_n dX12_ropes_127 rfl rfl ?_
      refine z_imul dX12_ropes_128 ?_
      refine z_iconst (v := 1) dX12_ropes_129 (by decide) ?_
      refine z_iadd dX12_ropes_130 ?_
      obtain ⟨g_5, hf⟩ := z_ifs hf
      refine z_iald ha_4 g_5 rfl dX12_ropes_131 ?_
      refine z_aload_n dX12_ropes_132 rfl rfl ?_
      obtain ⟨a_6, ra_6, hf⟩ := z_rd_some hf
      refine zgR fl_X12_84 h0 (fun _ => rfl) ra_6 dX12_ropes_133 (fun ha_6 => ?_)
      refine z_iconst (v := 3) dX12_ropes_136 (by decide) ?_
      refine z_iload_n dX12_ropes_137 rfl rfl ?_
      refine z_imul dX12_ropes_138 ?_
      refine z_iconst (v := 2) dX12_ropes_139 (by decide) ?_
      refine z_iadd dX12_ropes_140 ?_
      obtain ⟨g_7, hf⟩ := z_ifs hf
      refine z_iald ha_6 g_7 rfl dX12_ropes_141 ?_
      obtain ⟨v_8, M_9, c_10, hf⟩ := z_call_some hf
      refine z_cSi (t_X12_min  c_10) kw_X12_min lk_X12_98 rfl (by decide) rfl (Nat.le_of_ble_eq_true rfl) ⟨Nat.le_refl 0, Nat.le_refl 0⟩ dX12_ropes_142 ?_
      obtain ⟨v_11, M_12, c_13, hf⟩ := z_call_some hf
      refine z_cSi (t_X12_min  c_13) kw_X12_min lk_X12_98 rfl (by decide) rfl (Nat.le_of_ble_eq_true rfl) ⟨Nat.le_refl 0, Nat.le_refl 0⟩ dX12_ropes_145 ?_
      refine z_istore' (lv' := [(5, .int v_11), (0, .ref x0), (1, .int x1), (2, .int x2), (3, .int x3), (4, .int x4)]) dX12_ropes_148 (by decide) rfl rfl ?_
      refine z_iload dX12_ropes_150 rfl ?_
      refine z_ldcw (v := 1000000) dX12_ropes_152 cn_X12_312 ?_
      refine z_icmp_lt (tgt := 161) dX12_ropes_155 (by decide) (fun q_14 => ?_) (fun q_14 => ?_)
      · have hf := (if_pos q_14).symm.trans hf
        refine z_iload_n dX12_ropes_161 rfl rfl ?_
        refine z_if_ne (tgt := 173) dX12_ropes_162 (by decide) (fun q_15 => ?_) (fun q_15 => ?_)
        · have hf := (if_neg q_15).symm.trans hf
          refine z_iload dX12_ropes_173 rfl ?_
          refine z_bipush (v := 100) dX12_ropes_175 (by decide) ?_
          refine z_irem dX12_ropes_177 (by decide) ?_
          obtain ⟨rfl, rfl⟩ := z_end hf
          exact z_iret ⟨rfl, rfl, rfl⟩ (Or.inl rfl) dX12_ropes_178
        · have hf := (if_pos q_15).symm.trans hf
          refine z_iload dX12_ropes_165 rfl ?_
          refine z_bipush (v := 100) dX12_ropes_167 (by decide) ?_
          refine z_idiv dX12_ropes_169 (by decide) ?_
          refine z_goto (tgt := 178) dX12_ropes_170 (by decide) ?_
          obtain ⟨rfl, rfl⟩ := z_end hf
          exact z_iret ⟨rfl, rfl, rfl⟩ (Or.inl rfl) dX12_ropes_178
      · have hf := (if_neg q_14).symm.trans hf
        refine z_bipush (v := (-2)) dX12_ropes_158 (by decide) ?_
        obtain ⟨rfl, rfl⟩ := z_end hf
        exact z_iret ⟨rfl, rfl, rfl⟩ (Or.inl rfl) dX12_ropes_160
    · have hf := (if_neg q_1).symm.trans hf
      refine z_aload_n dX12_ropes_104 rfl rfl ?_
      refine z_iload_n dX12_ropes_105 rfl rfl ?_
      obtain ⟨v_16, M_17, c_18, hf⟩ := z_call_some hf
      refine z_cVi (t_X12_lowersAll h0 c_18) kw_X12_lowersAll lk_X12_348 h0 rfl (by decide) rfl (Nat.le_of_ble_eq_true rfl) ⟨Nat.le_refl 0, Nat.le_refl 0⟩ dX12_ropes_106 ?_
      refine z_istore' (lv' := [(4, .int v_16), (0, .ref x0), (1, .int x1), (2, .int x2), (3, .int x3)]) dX12_ropes_109 (by decide) rfl rfl ?_
      refine z_goto (tgt := 99) dX12_ropes_111 (by decide) ?_
      refine zA.pick [(0, .ref x0), (1, .int x1), (2, .int x2), (3, .int x3), (4, .int v_16)] [1, 2, 3, 4, 0] rfl ?_
      exact ih v_16 M_17 hf
noncomputable def f_X12_ropes_90 (x0 : Nat) (x1 : Int32) (x2 : Int32) (x3 : Int32) (k59 : Int32 → zM → Option (Int32 × zM)) (x4 : Int32) (M : zM) : Option (Int32 × zM) :=
  zl (x4 + 1) fun x4_1 => (k59 x4_1 M)
set_option maxHeartbeats 2000000 in
set_option maxRecDepth 20000 in
theorem t_X12_ropes_90 {l : Launch} {x0 : Nat} {x1 : Int32} {x2 : Int32} {x3 : Int32} {k59 : Int32 → zM → Option (Int32 × zM)} {x4 : Int32} {M MO : zM} {v : Int32} (h0 : z_tm SH 11 x0) (hk59 : ∀ (x4 : Int32) (M : zM), k59 x4 M = some (v, MO) → zA l yX12_ropes cX12_ropes 6 (some .int) 3 0 0 SH.length (zDi SH v MO) 0 0 59 [(0, .ref x0), (1, .int x1), (2, .int x2), (3, .int x3), (4, .int x4)] [] SH M) (hf : f_X12_ropes_90 x0 x1 x2 x3 k59 x4 M = some (v, MO)) : zA l yX12_ropes cX12_ropes 6 (some .int) 3 0 0 SH.length (zDi SH v MO) 0 0 90 [(0, .ref x0), (1, .int x1), (2, .int x2), (3, .int x3), (4, .int x4)] [] SH M := by
  unfold f_X12_ropes_90 at hf
  obtain ⟨x4_1, ex4_1, hf⟩ := zl_some hf
  refine z_iinc' (lv' := [(4, .int x4_1), (0, .ref x0), (1, .int x1), (2, .int x2), (3, .int x3)]) dX12_ropes_90 rfl (by decide) ex4_1 (by decide) rfl ?_
  refine z_goto (tgt := 59) dX12_ropes_93 (by decide) ?_
  refine zA.pick [(0, .ref x0), (1, .int x1), (2, .int x2), (3, .int x3), (4, .int x4_1)] [1, 2, 3, 4, 0] rfl ?_
  exact hk59 x4_1 M hf
noncomputable def f_X12_ropes_59 (x0 : Nat) (x1 : Int32) (x2 : Int32) (x3 : Int32) : Nat → Int32 → zM → Option (Int32 × zM)
  | 0, _, _ => none
  | n + 1, x4, M =>
    (if 24 ≤ x4 then (f_X12_ropes_99 x0 x1 x2 x3 zF 1 M) else z_rd (M.2.1 x0 0) fun a_2 => if z_ix (96 + x4) (z_ln SH a_2) = true then (if x2 < (M.1 a_2 ((96 + x4) : Int32).toNatClampNeg) then (f_X12_ropes_90 x0 x1 x2 x3 (f_X12_ropes_59 x0 x1 x2 x3 n) x4 M) else z_rd (M.2.1 x0 38) fun a_5 => if z_ix (3 * x4) (z_ln SH a_5) = true then zl (zu M.1 a_5 ((3 * x4) : Int32).toNatClampNeg 1, M.2) fun M_7 => (f_X12_ropes_90 x0 x1 x2 x3 (f_X12_ropes_59 x0 x1 x2 x3 n) x4 M_7) else none) else none)
set_option maxHeartbeats 2000000 in
set_option maxRecDepth 20000 in
theorem t_X12_ropes_59 {l : Launch} {x0 : Nat} {x1 : Int32} {x2 : Int32} {x3 : Int32} {MO : zM} {v : Int32} (h0 : z_tm SH 11 x0) : ∀ (n : Nat) (x4 : Int32) (M : zM), f_X12_ropes_59 x0 x1 x2 x3 n x4 M = some (v, MO) → zA l yX12_ropes cX12_ropes 6 (some .int) 3 0 0 SH.length (zDi SH v MO) 0 0 59 [(0, .ref x0), (1, .int x1), (2, .int x2), (3, .int x3), (4, .int x4)] [] SH M := by
  intro n
  induction n with
  | zero =>
    intro x4 M hf
    rw [f_X12_ropes_59] at hf
    cases hf
  | succ n ih =>
    intro x4 M hf
    rw [f_X12_ropes_59] at hf
    refine z_iload dX12_ropes_59 rfl ?_
    refine z_bipush (v := 24) dX12_ropes_61 (by decide) ?_
    refine z_icmp_ge (tgt := 96) dX12_ropes_63 (by decide) (fun q_1 => ?_) (fun q_1 => ?_)
    · have hf := (if_pos q_1).symm.trans hf
      refine z_iconst (v := 1) dX12_ropes_96 (by decide) ?_
      refine z_istore' (lv' := [(4, .int 1), (0, .ref x0), (1, .int x1), (2, .int x2), (3, .int x3)]) dX12_ropes_97 (by decide) rfl rfl ?_
      refine zA.pick [(0, .ref x0), (1, .int x1), (2, .int x2), (3, .int x3), (4, .int 1)] [1, 2, 3, 4, 0] rfl ?_
      exact t_X12_ropes_99 h0 zF 1 M hf
    · have hf := (if_neg q_1).symm.trans hf
      refine z_aload_n dX12_ropes_66 rfl rfl ?_
      obtain ⟨a_2, ra_2, hf⟩ := z_rd_some hf
      refine zgR fl_X12_7 h0 (fun _ => rfl) ra_2 dX12_ropes_67 (fun ha_2 => ?_)
      refine z_bipush (v := 96) dX12_ropes_70 (by decide) ?_
      refine z_iload dX12_ropes_72 rfl ?_
      refine z_iadd dX12_ropes_74 ?_
      obtain ⟨g_3, hf⟩ := z_ifs hf
      refine z_iald ha_2 g_3 rfl dX12_ropes_75 ?_
      refine z_iload_n dX12_ropes_76 rfl rfl ?_
      refine z_icmp_gt (tgt := 90) dX12_ropes_77 (by decide) (fun q_4 => ?_) (fun q_4 => ?_)
      · have hf := (if_pos q_4).symm.trans hf
        exact t_X12_ropes_90 h0 ih hf
      · have hf := (if_neg q_4).symm.trans hf
        refine z_aload_n dX12_ropes_80 rfl rfl ?_
        obtain ⟨a_5, ra_5, hf⟩ := z_rd_some hf
        refine zgR fl_X12_84 h0 (fun _ => rfl) ra_5 dX12_ropes_81 (fun ha_5 => ?_)
        refine z_iconst (v := 3) dX12_ropes_84 (by decide) ?_
        refine z_iload dX12_ropes_85 rfl ?_
        refine z_imul dX12_ropes_87 ?_
        refine z_iconst (v := 1) dX12_ropes_88 (by decide) ?_
        obtain ⟨g_6, hf⟩ := z_ifs hf
        obtain ⟨M_7, eM_7, hf⟩ := zl_some hf
        refine z_iast ha_5 g_6 eM_7 dX12_ropes_89 ?_
        exact t_X12_ropes_90 h0 ih hf
noncomputable def f_X12_ropes_32 (x0 : Nat) (x1 : Int32) (x2 : Int32) (x3 : Int32) : Nat → Int32 → zM → Option (Int32 × zM)
  | 0, _, _ => none
  | n + 1, x4, M =>
    (if 72 ≤ x4 then (f_X12_ropes_59 x0 x1 x2 x3 zF 20 M) else z_rd (M.2.1 x0 38) fun a_2 => if z_ix x4 (z_ln SH a_2) = true then zl (zu M.1 a_2 (x4 : Int32).toNatClampNeg 1000000, M.2) fun M_4 => zl (x4 + 1) fun x4_5 => (f_X12_ropes_32 x0 x1 x2 x3 n x4_5 M_4) else none)
set_option maxHeartbeats 2000000 in
set_option maxRecDepth 20000 in
theorem t_X12_ropes_32 {l : Launch} {x0 : Nat} {x1 : Int32} {x2 : Int32} {x3 : Int32} {MO : zM} {v : Int32} (h0 : z_tm SH 11 x0) : ∀ (n : Nat) (x4 : Int32) (M : zM), f_X12_ropes_32 x0 x1 x2 x3 n x4 M = some (v, MO) → zA l yX12_ropes cX12_ropes 6 (some .int) 3 0 0 SH.length (zDi SH v MO) 0 0 32 [(0, .ref x0), (1, .int x1), (2, .int x2), (3, .int x3), (4, .int x4)] [] SH M := by
  intro n
  induction n with
  | zero =>
    intro x4 M hf
    rw [f_X12_ropes_32] at hf
    cases hf
  | succ n ih =>
    intro x4 M hf
    rw [f_X12_ropes_32] at hf
    refine z_iload dX12_ropes_32 rfl ?_
    refine z_bipush (v := 72) dX12_ropes_34 (by decide) ?_
    refine z_icmp_ge (tgt := 55) dX12_ropes_36 (by decide) (fun q_1 => ?_) (fun q_1 => ?_)
    · have hf := (if_pos q_1).symm.trans hf
      refine z_bipush (v := 20) dX12_ropes_55 (by decide) ?_
      refine z_istore' (lv' := [(4, .int 20), (0, .ref x0), (1, .int x1), (2, .int x2), (3, .int x3)]) dX12_ropes_57 (by decide) rfl rfl ?_
      refine zA.pick [(0, .ref x0), (1, .int x1), (2, .int x2), (3, .int x3), (4, .int 20)] [1, 2, 3, 4, 0] rfl ?_
      exact t_X12_ropes_59 h0 zF 20 M hf
    · have hf := (if_neg q_1).symm.trans hf
      refine z_aload_n dX12_ropes_39 rfl rfl ?_
      obtain ⟨a_2, ra_2, hf⟩ := z_rd_some hf
      refine zgR fl_X12_84 h0 (fun _ => rfl) ra_2 dX12_ropes_40 (fun ha_2 => ?_)
      refine z_iload dX12_ropes_43 rfl ?_
      refine z_ldcw (v := 1000000) dX12_ropes_45 cn_X12_312 ?_
      obtain ⟨g_3, hf⟩ := z_ifs hf
      obtain ⟨M_4, eM_4, hf⟩ := zl_some hf
      refine z_iast ha_2 g_3 eM_4 dX12_ropes_48 ?_
      obtain ⟨x4_5, ex4_5, hf⟩ := zl_some hf
      refine z_iinc' (lv' := [(4, .int x4_5), (0, .ref x0), (1, .int x1), (2, .int x2), (3, .int x3)]) dX12_ropes_49 rfl (by decide) ex4_5 (by decide) rfl ?_
      refine z_goto (tgt := 32) dX12_ropes_52 (by decide) ?_
      refine zA.pick [(0, .ref x0), (1, .int x1), (2, .int x2), (3, .int x3), (4, .int x4_5)] [1, 2, 3, 4, 0] rfl ?_
      exact ih x4_5 M_4 hf
noncomputable def f_X12_ropes (x0 : Nat) (x1 : Int32) (x2 : Int32) (x3 : Int32) (M : zM) : Option (Int32 × zM) :=
  z_call (f_X12_isRoom x1 M) fun v_1 M_2 => (if v_1 = 0 then some ((-1), M_2) else z_call (f_X12_in x2 0 99999 M_2) fun v_5 M_6 => (if v_5 = 0 then some ((-1), M_6) else z_call (f_X12_in x3 0 1 M_6) fun v_9 M_10 => (if v_9 = 0 then some ((-1), M_10) else (f_X12_ropes_32 x0 x1 x2 x3 zF 0 M_10))))
set_option maxHeartbeats 2000000 in
set_option maxRecDepth 20000 in
theorem t_X12_ropes {l : Launch} {x0 : Nat} {x1 : Int32} {x2 : Int32} {x3 : Int32} {M MO : zM} {v : Int32} (h0 : z_tm SH 11 x0) (hf : f_X12_ropes x0 x1 x2 x3 M = some (v, MO)) : zMet l yX12_ropes cX12_ropes 6 (some .int) 3 0 0 [.ref x0, .int x1, .int x2, .int x3] SH M (zDi SH v MO) := by
  refine zMet.of (by decide +kernel) (Nat.le_of_ble_eq_true rfl) (Or.inr (Or.inl rfl)) ?_
  show zA l yX12_ropes cX12_ropes 6 (some .int) 3 0 0 SH.length (zDi SH v MO) 0 0 0 [(0, .ref x0), (1, .int x1), (2, .int x2), (3, .int x3)] [] SH M
  unfold f_X12_ropes at hf
  refine z_iload_n dX12_ropes_0 rfl rfl ?_
  obtain ⟨v_1, M_2, c_3, hf⟩ := z_call_some hf
  refine z_cSi (t_X12_isRoom  c_3) kw_X12_isRoom lk_X12_107 rfl (by decide) rfl (Nat.le_of_ble_eq_true rfl) ⟨Nat.le_refl 0, Nat.le_refl 0⟩ dX12_ropes_1 ?_
  refine z_if_eq (tgt := 27) dX12_ropes_4 (by decide) (fun q_4 => ?_) (fun q_4 => ?_)
  · have hf := (if_pos q_4).symm.trans hf
    refine z_iconst (v := (-1)) dX12_ropes_27 (by decide) ?_
    obtain ⟨rfl, rfl⟩ := z_end hf
    exact z_iret ⟨rfl, rfl, rfl⟩ (Or.inl rfl) dX12_ropes_28
  · have hf := (if_neg q_4).symm.trans hf
    refine z_iload_n dX12_ropes_7 rfl rfl ?_
    refine z_iconst (v := 0) dX12_ropes_8 (by decide) ?_
    refine z_ldcw (v := 99999) dX12_ropes_9 cn_X12_264 ?_
    obtain ⟨v_5, M_6, c_7, hf⟩ := z_call_some hf
    refine z_cSi (t_X12_in  c_7) kw_X12_in lk_X12_90 rfl (by decide) rfl (Nat.le_of_ble_eq_true rfl) ⟨Nat.le_refl 0, Nat.le_refl 0⟩ dX12_ropes_12 ?_
    refine z_if_eq (tgt := 27) dX12_ropes_15 (by decide) (fun q_8 => ?_) (fun q_8 => ?_)
    · have hf := (if_pos q_8).symm.trans hf
      refine z_iconst (v := (-1)) dX12_ropes_27 (by decide) ?_
      obtain ⟨rfl, rfl⟩ := z_end hf
      exact z_iret ⟨rfl, rfl, rfl⟩ (Or.inl rfl) dX12_ropes_28
    · have hf := (if_neg q_8).symm.trans hf
      refine z_iload_n dX12_ropes_18 rfl rfl ?_
      refine z_iconst (v := 0) dX12_ropes_19 (by decide) ?_
      refine z_iconst (v := 1) dX12_ropes_20 (by decide) ?_
      obtain ⟨v_9, M_10, c_11, hf⟩ := z_call_some hf
      refine z_cSi (t_X12_in  c_11) kw_X12_in lk_X12_90 rfl (by decide) rfl (Nat.le_of_ble_eq_true rfl) ⟨Nat.le_refl 0, Nat.le_refl 0⟩ dX12_ropes_21 ?_
      refine z_if_ne (tgt := 29) dX12_ropes_24 (by decide) (fun q_12 => ?_) (fun q_12 => ?_)
      · have hf := (if_neg q_12).symm.trans hf
        refine z_iconst (v := 0) dX12_ropes_29 (by decide) ?_
        refine z_istore' (lv' := [(4, .int 0), (0, .ref x0), (1, .int x1), (2, .int x2), (3, .int x3)]) dX12_ropes_30 (by decide) rfl rfl ?_
        refine zA.pick [(0, .ref x0), (1, .int x1), (2, .int x2), (3, .int x3), (4, .int 0)] [1, 2, 3, 4, 0] rfl ?_
        exact t_X12_ropes_32 h0 zF 0 M_10 hf
      · have hf := (if_pos q_12).symm.trans hf
        refine z_iconst (v := (-1)) dX12_ropes_27 (by decide) ?_
        obtain ⟨rfl, rfl⟩ := z_end hf
        exact z_iret ⟨rfl, rfl, rfl⟩ (Or.inl rfl) dX12_ropes_28
noncomputable def f_X12_readsTaps_24 (x0 : Nat) : Nat → zM → Option (Int32 × zM)
  | 0, _ => none
  | n + 1, M =>
    z_call (f_X12_here x0 M) fun v_1 M_2 => (if v_1 = 120 then (if (M_2.1 x0 8) = 5 then z_call (f_X12_wrongAt x0 2 (M_2.1 x0 5) M_2) fun v_8 M_9 => if ((v_8 : Int32) = 0 ∨ (v_8 : Int32) = 1) then some (v_8, M_9) else none else zl (zu M_2.1 x0 8 ((M_2.1 x0 8) + 1), M_2.2) fun M_6 => zl (zu M_6.1 x0 5 ((M_6.1 x0 5) + 1), M_6.2) fun M_7 => (f_X12_readsTaps_24 x0 n M_7)) else some (1, M_2))
set_option maxHeartbeats 2000000 in
set_option maxRecDepth 20000 in
theorem t_X12_readsTaps_24 {l : Launch} {x0 : Nat} {MO : zM} {v : Int32} (h0 : z_tm SH 11 x0) : ∀ (n : Nat) (M : zM), f_X12_readsTaps_24 x0 n M = some (v, MO) → zA l yX12_readsTaps cX12_readsTaps 1 (some .boolean) 2 0 0 SH.length (zDi SH v MO) 0 0 24 [(0, .ref x0)] [] SH M := by
  intro n
  induction n with
  | zero =>
    intro M hf
    rw [f_X12_readsTaps_24] at hf
    cases hf
  | succ n ih =>
    intro M hf
    rw [f_X12_readsTaps_24] at hf
    refine z_aload_n dX12_readsTaps_24 rfl rfl ?_
    obtain ⟨v_1, M_2, c_3, hf⟩ := z_call_some hf
    refine z_cVi (t_X12_here h0 c_3) kw_X12_here lk_X12_129 h0 rfl (by decide) rfl (Nat.le_of_ble_eq_true rfl) ⟨Nat.le_refl 0, Nat.le_refl 0⟩ dX12_readsTaps_25 ?_
    refine z_bipush (v := 120) dX12_readsTaps_28 (by decide) ?_
    refine z_icmp_ne (tgt := 74) dX12_readsTaps_30 (by decide) (fun q_4 => ?_) (fun q_4 => ?_)
    · have hf := (if_neg q_4).symm.trans hf
      refine z_iconst (v := 1) dX12_readsTaps_74 (by decide) ?_
      obtain ⟨rfl, rfl⟩ := z_end hf
      exact z_iret ⟨rfl, rfl, rfl⟩ (Or.inr ⟨rfl, (Or.inr rfl)⟩) dX12_readsTaps_75
    · have hf := (if_pos q_4).symm.trans hf
      refine z_aload_n dX12_readsTaps_33 rfl rfl ?_
      refine zgI fl_X12_140 h0 (fun _ => rfl) dX12_readsTaps_34 ?_
      refine z_iconst (v := 5) dX12_readsTaps_37 (by decide) ?_
      refine z_icmp_ne (tgt := 51) dX12_readsTaps_38 (by decide) (fun q_5 => ?_) (fun q_5 => ?_)
      · have hf := (if_neg q_5).symm.trans hf
        refine z_aload_n dX12_readsTaps_51 rfl rfl ?_
        refine z_aload_n dX12_readsTaps_52 rfl rfl ?_
        refine zgI fl_X12_140 h0 (fun _ => rfl) dX12_readsTaps_53 ?_
        refine z_iconst (v := 1) dX12_readsTaps_56 (by decide) ?_
        refine z_iadd dX12_readsTaps_57 ?_
        obtain ⟨M_6, eM_6, hf⟩ := zl_some hf
        refine zpI fl_X12_140 h0 rfl (Or.inl rfl) eM_6 dX12_readsTaps_58 ?_
        refine z_aload_n dX12_readsTaps_61 rfl rfl ?_
        refine z_aload_n dX12_readsTaps_62 rfl rfl ?_
        refine zgI fl_X12_123 h0 (fun _ => rfl) dX12_readsTaps_63 ?_
        refine z_iconst (v := 1) dX12_readsTaps_66 (by decide) ?_
        refine z_iadd dX12_readsTaps_67 ?_
        obtain ⟨M_7, eM_7, hf⟩ := zl_some hf
        refine zpI fl_X12_123 h0 rfl (Or.inl rfl) eM_7 dX12_readsTaps_68 ?_
        refine z_goto (tgt := 24) dX12_readsTaps_71 (by decide) ?_
        exact ih M_7 hf
      · have hf := (if_pos q_5).symm.trans hf
        refine z_aload_n dX12_readsTaps_41 rfl rfl ?_
        refine z_iconst (v := 2) dX12_readsTaps_42 (by decide) ?_
        refine z_aload_n dX12_readsTaps_43 rfl rfl ?_
        refine zgI fl_X12_123 h0 (fun _ => rfl) dX12_readsTaps_44 ?_
        obtain ⟨v_8, M_9, c_10, hf⟩ := z_call_some hf
        refine z_cVi (t_X12_wrongAt h0 c_10) kw_X12_wrongAt lk_X12_136 h0 rfl (by decide) rfl (Nat.le_of_ble_eq_true rfl) ⟨Nat.le_refl 0, Nat.le_refl 0⟩ dX12_readsTaps_47 ?_
        obtain ⟨g_11, hf⟩ := z_ifs hf
        obtain ⟨rfl, rfl⟩ := z_end hf
        exact z_iret ⟨rfl, rfl, rfl⟩ (Or.inr ⟨rfl, g_11⟩) dX12_readsTaps_50
noncomputable def f_X12_readsTaps (x0 : Nat) (M : zM) : Option (Int32 × zM) :=
  zl (zu M.1 x0 8 0, M.2) fun M_1 => z_call (f_X12_here x0 M_1) fun v_2 M_3 => (if v_2 = 120 then (f_X12_readsTaps_24 x0 zF M_3) else z_call (f_X12_wrongAt x0 1 (M_3.1 x0 5) M_3) fun v_6 M_7 => if ((v_6 : Int32) = 0 ∨ (v_6 : Int32) = 1) then some (v_6, M_7) else none)
set_option maxHeartbeats 2000000 in
set_option maxRecDepth 20000 in
theorem t_X12_readsTaps {l : Launch} {x0 : Nat} {M MO : zM} {v : Int32} (h0 : z_tm SH 11 x0) (hf : f_X12_readsTaps x0 M = some (v, MO)) : zMet l yX12_readsTaps cX12_readsTaps 1 (some .boolean) 2 0 0 [.ref x0] SH M (zDi SH v MO) := by
  refine zMet.of (by decide +kernel) (Nat.le_of_ble_eq_true rfl) (Or.inr (Or.inr (Or.inl rfl))) ?_
  show zA l yX12_readsTaps cX12_readsTaps 1 (some .boolean) 2 0 0 SH.length (zDi SH v MO) 0 0 0 [(0, .ref x0)] [] SH M
  unfold f_X12_readsTaps at hf
  refine z_aload_n dX12_readsTaps_0 rfl rfl ?_
  refine z_iconst (v := 0) dX12_readsTaps_1 (by decide) ?_
  obtain ⟨M_1, eM_1, hf⟩ := zl_some hf
  refine zpI fl_X12_140 h0 rfl (Or.inl rfl) eM_1 dX12_readsTaps_2 ?_
  refine z_aload_n dX12_readsTaps_5 rfl rfl ?_
  obtain ⟨v_2, M_3, c_4, hf⟩ := z_call_some hf
  refine z_cVi (t_X12_here h0 c_4) kw_X12_here lk_X12_129 h0 rfl (by decide) rfl (Nat.le_of_ble_eq_true rfl) ⟨Nat.le_refl 0, Nat.le_refl 0⟩ dX12_readsTaps_6 ?_
  refine z_bipush (v := 120) dX12_readsTaps_9 (by decide) ?_
  refine z_icmp_eq (tgt := 24) dX12_readsTaps_11 (by decide) (fun q_5 => ?_) (fun q_5 => ?_)
  · have hf := (if_pos q_5).symm.trans hf
    exact t_X12_readsTaps_24 h0 zF M_3 hf
  · have hf := (if_neg q_5).symm.trans hf
    refine z_aload_n dX12_readsTaps_14 rfl rfl ?_
    refine z_iconst (v := 1) dX12_readsTaps_15 (by decide) ?_
    refine z_aload_n dX12_readsTaps_16 rfl rfl ?_
    refine zgI fl_X12_123 h0 (fun _ => rfl) dX12_readsTaps_17 ?_
    obtain ⟨v_6, M_7, c_8, hf⟩ := z_call_some hf
    refine z_cVi (t_X12_wrongAt h0 c_8) kw_X12_wrongAt lk_X12_136 h0 rfl (by decide) rfl (Nat.le_of_ble_eq_true rfl) ⟨Nat.le_refl 0, Nat.le_refl 0⟩ dX12_readsTaps_20 ?_
    obtain ⟨g_9, hf⟩ := z_ifs hf
    obtain ⟨rfl, rfl⟩ := z_end hf
    exact z_iret ⟨rfl, rfl, rfl⟩ (Or.inr ⟨rfl, g_9⟩) dX12_readsTaps_23
noncomputable def f_X12_readsLetter_65 (x0 : Nat) (s0 : Nat) (s1 : Int32) (s2 : Int32) (M : zM) : Option (Int32 × zM) :=
  if z_ix s1 (z_ln SH s0) = true then zl (zu M.1 s0 (s1 : Int32).toNatClampNeg s2, M.2) fun M_2 => zl (zu M_2.1 x0 40 ((M_2.1 x0 40) + 1), M_2.2) fun M_3 => some (1, M_3) else none
set_option maxHeartbeats 2000000 in
set_option maxRecDepth 20000 in
theorem t_X12_readsLetter_65 {l : Launch} {x0 : Nat} {s0 : Nat} {s1 : Int32} {s2 : Int32} {M MO : zM} {v : Int32} (h0 : z_tm SH 11 x0) (hs0 : z_tm SH 100 s0) (hf : f_X12_readsLetter_65 x0 s0 s1 s2 M = some (v, MO)) : zA l yX12_readsLetter cX12_readsLetter 3 (some .boolean) 3 0 0 SH.length (zDi SH v MO) 0 0 65 [(0, .ref x0)] [.int s2, .int s1, .ref s0] SH M := by
  unfold f_X12_readsLetter_65 at hf
  obtain ⟨g_1, hf⟩ := z_ifs hf
  obtain ⟨M_2, eM_2, hf⟩ := zl_some hf
  refine z_iast hs0 g_1 eM_2 dX12_readsLetter_65 ?_
  refine z_aload_n dX12_readsLetter_66 rfl rfl ?_
  refine z_aload_n dX12_readsLetter_67 rfl rfl ?_
  refine zgI fl_X12_354 h0 (fun _ => rfl) dX12_readsLetter_68 ?_
  refine z_iconst (v := 1) dX12_readsLetter_71 (by decide) ?_
  refine z_iadd dX12_readsLetter_72 ?_
  obtain ⟨M_3, eM_3, hf⟩ := zl_some hf
  refine zpI fl_X12_354 h0 rfl (Or.inl rfl) eM_3 dX12_readsLetter_73 ?_
  refine z_iconst (v := 1) dX12_readsLetter_76 (by decide) ?_
  obtain ⟨rfl, rfl⟩ := z_end hf
  exact z_iret ⟨rfl, rfl, rfl⟩ (Or.inr ⟨rfl, (Or.inr rfl)⟩) dX12_readsLetter_77
noncomputable def f_X12_readsLetter (x0 : Nat) (M : zM) : Option (Int32 × zM) :=
  z_call (f_X12_readsTaps x0 M) fun v_1 M_2 => (if v_1 = 0 then some (0, M_2) else zl ((M_2.1 x0 8)) fun x1_5 => z_call (f_X12_takes x0 46 M_2) fun v_6 M_7 => (if v_6 = 0 then some (0, M_7) else z_call (f_X12_readsTaps x0 M_7) fun v_10 M_11 => (if v_10 = 0 then some (0, M_11) else zl ((((5 * x1_5) + (M_11.1 x0 8)) - 6)) fun x2_14 => z_rd (M_11.2.1 x0 39) fun a_15 => (if 10 ≤ x2_14 then (f_X12_readsLetter_65 x0 a_15 (M_11.1 x0 40) (x2_14 + 1) M_11) else (f_X12_readsLetter_65 x0 a_15 (M_11.1 x0 40) x2_14 M_11)))))
set_option maxHeartbeats 2000000 in
set_option maxRecDepth 20000 in
theorem t_X12_readsLetter {l : Launch} {x0 : Nat} {M MO : zM} {v : Int32} (h0 : z_tm SH 11 x0) (hf : f_X12_readsLetter x0 M = some (v, MO)) : zMet l yX12_readsLetter cX12_readsLetter 3 (some .boolean) 3 0 0 [.ref x0] SH M (zDi SH v MO) := by
  refine zMet.of (by decide +kernel) (Nat.le_of_ble_eq_true rfl) (Or.inr (Or.inr (Or.inl rfl))) ?_
  show zA l yX12_readsLetter cX12_readsLetter 3 (some .boolean) 3 0 0 SH.length (zDi SH v MO) 0 0 0 [(0, .ref x0)] [] SH M
  unfold f_X12_readsLetter at hf
  refine z_aload_n dX12_readsLetter_0 rfl rfl ?_
  obtain ⟨v_1, M_2, c_3, hf⟩ := z_call_some hf
  refine z_cVi (t_X12_readsTaps h0 c_3) kw_X12_readsTaps lk_X12_351 h0 rfl (by decide) rfl (Nat.le_of_ble_eq_true rfl) ⟨Nat.le_refl 0, Nat.le_refl 0⟩ dX12_readsLetter_1 ?_
  refine z_if_ne (tgt := 9) dX12_readsLetter_4 (by decide) (fun q_4 => ?_) (fun q_4 => ?_)
  · have hf := (if_neg q_4).symm.trans hf
    refine z_aload_n dX12_readsLetter_9 rfl rfl ?_
    refine zgI fl_X12_140 h0 (fun _ => rfl) dX12_readsLetter_10 ?_
    obtain ⟨x1_5, ex1_5, hf⟩ := zl_some hf
    refine z_istore_n' (lv' := [(1, .int x1_5), (0, .ref x0)]) rfl dX12_readsLetter_13 (by decide) ex1_5 rfl ?_
    refine z_aload_n dX12_readsLetter_14 rfl rfl ?_
    refine z_bipush (v := 46) dX12_readsLetter_15 (by decide) ?_
    obtain ⟨v_6, M_7, c_8, hf⟩ := z_call_some hf
    refine z_cVi (t_X12_takes h0 c_8) kw_X12_takes lk_X12_214 h0 rfl (by decide) rfl (Nat.le_of_ble_eq_true rfl) ⟨Nat.le_refl 0, Nat.le_refl 0⟩ dX12_readsLetter_17 ?_
    refine z_if_eq (tgt := 30) dX12_readsLetter_20 (by decide) (fun q_9 => ?_) (fun q_9 => ?_)
    · have hf := (if_pos q_9).symm.trans hf
      refine z_iconst (v := 0) dX12_readsLetter_30 (by decide) ?_
      obtain ⟨rfl, rfl⟩ := z_end hf
      exact z_iret ⟨rfl, rfl, rfl⟩ (Or.inr ⟨rfl, (Or.inl rfl)⟩) dX12_readsLetter_31
    · have hf := (if_neg q_9).symm.trans hf
      refine z_aload_n dX12_readsLetter_23 rfl rfl ?_
      obtain ⟨v_10, M_11, c_12, hf⟩ := z_call_some hf
      refine z_cVi (t_X12_readsTaps h0 c_12) kw_X12_readsTaps lk_X12_351 h0 rfl (by decide) rfl (Nat.le_of_ble_eq_true rfl) ⟨Nat.le_refl 0, Nat.le_refl 0⟩ dX12_readsLetter_24 ?_
      refine z_if_ne (tgt := 32) dX12_readsLetter_27 (by decide) (fun q_13 => ?_) (fun q_13 => ?_)
      · have hf := (if_neg q_13).symm.trans hf
        refine z_iconst (v := 5) dX12_readsLetter_32 (by decide) ?_
        refine z_iload_n dX12_readsLetter_33 rfl rfl ?_
        refine z_imul dX12_readsLetter_34 ?_
        refine z_aload_n dX12_readsLetter_35 rfl rfl ?_
        refine zgI fl_X12_140 h0 (fun _ => rfl) dX12_readsLetter_36 ?_
        refine z_iadd dX12_readsLetter_39 ?_
        refine z_bipush (v := 6) dX12_readsLetter_40 (by decide) ?_
        refine z_isub dX12_readsLetter_42 ?_
        obtain ⟨x2_14, ex2_14, hf⟩ := zl_some hf
        refine z_istore_n' (lv' := [(2, .int x2_14), (1, .int x1_5), (0, .ref x0)]) rfl dX12_readsLetter_43 (by decide) ex2_14 rfl ?_
        refine z_aload_n dX12_readsLetter_44 rfl rfl ?_
        obtain ⟨a_15, ra_15, hf⟩ := z_rd_some hf
        refine zgR fl_X12_87 h0 (fun _ => rfl) ra_15 dX12_readsLetter_45 (fun ha_15 => ?_)
        refine z_aload_n dX12_readsLetter_48 rfl rfl ?_
        refine zgI fl_X12_354 h0 (fun _ => rfl) dX12_readsLetter_49 ?_
        refine z_iload_n dX12_readsLetter_52 rfl rfl ?_
        refine z_bipush (v := 10) dX12_readsLetter_53 (by decide) ?_
        refine z_icmp_ge (tgt := 62) dX12_readsLetter_55 (by decide) (fun q_16 => ?_) (fun q_16 => ?_)
        · have hf := (if_pos q_16).symm.trans hf
          refine z_iload_n dX12_readsLetter_62 rfl rfl ?_
          refine z_iconst (v := 1) dX12_readsLetter_63 (by decide) ?_
          refine z_iadd dX12_readsLetter_64 ?_
          refine zA.pick [(0, .ref x0)] [2] rfl ?_
          exact t_X12_readsLetter_65 h0 ha_15 hf
        · have hf := (if_neg q_16).symm.trans hf
          refine z_iload_n dX12_readsLetter_58 rfl rfl ?_
          refine z_goto (tgt := 65) dX12_readsLetter_59 (by decide) ?_
          refine zA.pick [(0, .ref x0)] [2] rfl ?_
          exact t_X12_readsLetter_65 h0 ha_15 hf
      · have hf := (if_pos q_13).symm.trans hf
        refine z_iconst (v := 0) dX12_readsLetter_30 (by decide) ?_
        obtain ⟨rfl, rfl⟩ := z_end hf
        exact z_iret ⟨rfl, rfl, rfl⟩ (Or.inr ⟨rfl, (Or.inl rfl)⟩) dX12_readsLetter_31
  · have hf := (if_pos q_4).symm.trans hf
    refine z_iconst (v := 0) dX12_readsLetter_7 (by decide) ?_
    obtain ⟨rfl, rfl⟩ := z_end hf
    exact z_iret ⟨rfl, rfl, rfl⟩ (Or.inr ⟨rfl, (Or.inl rfl)⟩) dX12_readsLetter_8
noncomputable def f_X12_readsPause (x0 : Nat) (M : zM) : Option (Int32 × zM) :=
  z_call (f_X12_takes x0 46 M) fun v_1 M_2 => (if v_1 = 0 then some (0, M_2) else z_call (f_X12_takes x0 46 M_2) fun v_5 M_6 => (if v_5 = 0 then some (0, M_6) else z_call (f_X12_here x0 M_6) fun v_9 M_10 => (if v_9 = 46 then z_call (f_X12_wrongAt x0 3 (M_10.1 x0 5) M_10) fun v_13 M_14 => (if v_13 = 0 then some (0, M_14) else some (1, M_14)) else some (1, M_10))))
set_option maxHeartbeats 2000000 in
set_option maxRecDepth 20000 in
theorem t_X12_readsPause {l : Launch} {x0 : Nat} {M MO : zM} {v : Int32} (h0 : z_tm SH 11 x0) (hf : f_X12_readsPause x0 M = some (v, MO)) : zMet l yX12_readsPause cX12_readsPause 1 (some .boolean) 3 0 0 [.ref x0] SH M (zDi SH v MO) := by
  refine zMet.of (by decide +kernel) (Nat.le_of_ble_eq_true rfl) (Or.inr (Or.inr (Or.inl rfl))) ?_
  show zA l yX12_readsPause cX12_readsPause 1 (some .boolean) 3 0 0 SH.length (zDi SH v MO) 0 0 0 [(0, .ref x0)] [] SH M
  unfold f_X12_readsPause at hf
  refine z_aload_n dX12_readsPause_0 rfl rfl ?_
  refine z_bipush (v := 46) dX12_readsPause_1 (by decide) ?_
  obtain ⟨v_1, M_2, c_3, hf⟩ := z_call_some hf
  refine z_cVi (t_X12_takes h0 c_3) kw_X12_takes lk_X12_214 h0 rfl (by decide) rfl (Nat.le_of_ble_eq_true rfl) ⟨Nat.le_refl 0, Nat.le_refl 0⟩ dX12_readsPause_3 ?_
  refine z_if_eq (tgt := 18) dX12_readsPause_6 (by decide) (fun q_4 => ?_) (fun q_4 => ?_)
  · have hf := (if_pos q_4).symm.trans hf
    refine z_iconst (v := 0) dX12_readsPause_18 (by decide) ?_
    obtain ⟨rfl, rfl⟩ := z_end hf
    exact z_iret ⟨rfl, rfl, rfl⟩ (Or.inr ⟨rfl, (Or.inl rfl)⟩) dX12_readsPause_19
  · have hf := (if_neg q_4).symm.trans hf
    refine z_aload_n dX12_readsPause_9 rfl rfl ?_
    refine z_bipush (v := 46) dX12_readsPause_10 (by decide) ?_
    obtain ⟨v_5, M_6, c_7, hf⟩ := z_call_some hf
    refine z_cVi (t_X12_takes h0 c_7) kw_X12_takes lk_X12_214 h0 rfl (by decide) rfl (Nat.le_of_ble_eq_true rfl) ⟨Nat.le_refl 0, Nat.le_refl 0⟩ dX12_readsPause_12 ?_
    refine z_if_ne (tgt := 20) dX12_readsPause_15 (by decide) (fun q_8 => ?_) (fun q_8 => ?_)
    · have hf := (if_neg q_8).symm.trans hf
      refine z_aload_n dX12_readsPause_20 rfl rfl ?_
      obtain ⟨v_9, M_10, c_11, hf⟩ := z_call_some hf
      refine z_cVi (t_X12_here h0 c_11) kw_X12_here lk_X12_129 h0 rfl (by decide) rfl (Nat.le_of_ble_eq_true rfl) ⟨Nat.le_refl 0, Nat.le_refl 0⟩ dX12_readsPause_21 ?_
      refine z_bipush (v := 46) dX12_readsPause_24 (by decide) ?_
      refine z_icmp_ne (tgt := 41) dX12_readsPause_26 (by decide) (fun q_12 => ?_) (fun q_12 => ?_)
      · have hf := (if_neg q_12).symm.trans hf
        refine z_iconst (v := 1) dX12_readsPause_41 (by decide) ?_
        refine z_goto (tgt := 46) dX12_readsPause_42 (by decide) ?_
        obtain ⟨rfl, rfl⟩ := z_end hf
        exact z_iret ⟨rfl, rfl, rfl⟩ (Or.inr ⟨rfl, (Or.inr rfl)⟩) dX12_readsPause_46
      · have hf := (if_pos q_12).symm.trans hf
        refine z_aload_n dX12_readsPause_29 rfl rfl ?_
        refine z_iconst (v := 3) dX12_readsPause_30 (by decide) ?_
        refine z_aload_n dX12_readsPause_31 rfl rfl ?_
        refine zgI fl_X12_123 h0 (fun _ => rfl) dX12_readsPause_32 ?_
        obtain ⟨v_13, M_14, c_15, hf⟩ := z_call_some hf
        refine z_cVi (t_X12_wrongAt h0 c_15) kw_X12_wrongAt lk_X12_136 h0 rfl (by decide) rfl (Nat.le_of_ble_eq_true rfl) ⟨Nat.le_refl 0, Nat.le_refl 0⟩ dX12_readsPause_35 ?_
        refine z_if_eq (tgt := 45) dX12_readsPause_38 (by decide) (fun q_16 => ?_) (fun q_16 => ?_)
        · have hf := (if_pos q_16).symm.trans hf
          refine z_iconst (v := 0) dX12_readsPause_45 (by decide) ?_
          obtain ⟨rfl, rfl⟩ := z_end hf
          exact z_iret ⟨rfl, rfl, rfl⟩ (Or.inr ⟨rfl, (Or.inl rfl)⟩) dX12_readsPause_46
        · have hf := (if_neg q_16).symm.trans hf
          refine z_iconst (v := 1) dX12_readsPause_41 (by decide) ?_
          refine z_goto (tgt := 46) dX12_readsPause_42 (by decide) ?_
          obtain ⟨rfl, rfl⟩ := z_end hf
          exact z_iret ⟨rfl, rfl, rfl⟩ (Or.inr ⟨rfl, (Or.inr rfl)⟩) dX12_readsPause_46
    · have hf := (if_pos q_8).symm.trans hf
      refine z_iconst (v := 0) dX12_readsPause_18 (by decide) ?_
      obtain ⟨rfl, rfl⟩ := z_end hf
      exact z_iret ⟨rfl, rfl, rfl⟩ (Or.inr ⟨rfl, (Or.inl rfl)⟩) dX12_readsPause_19
noncomputable def f_X12_taps_89 (x0 : Nat) (x2 : Int32) (x3 : Int32) (M : zM) : Option (Int32 × zM) :=
  zl (zu M.1 x0 4 0, M.2) fun M_1 => (if x3 = 0 then some ((M_1.1 x0 7), M_1) else (if x2 = 100 then some ((M_1.1 x0 40), M_1) else (if (M_1.1 x0 40) ≤ x2 then some ((-4), M_1) else z_rd (M_1.2.1 x0 39) fun a_5 => if z_ix x2 (z_ln SH a_5) = true then some ((M_1.1 a_5 (x2 : Int32).toNatClampNeg), M_1) else none)))
set_option maxHeartbeats 2000000 in
set_option maxRecDepth 20000 in
theorem t_X12_taps_89 {l : Launch} {x0 : Nat} {x2 : Int32} {x3 : Int32} {M MO : zM} {v : Int32} (h0 : z_tm SH 11 x0) (hf : f_X12_taps_89 x0 x2 x3 M = some (v, MO)) : zA l yX12_taps cX12_taps 4 (some .int) 4 0 0 SH.length (zDi SH v MO) 0 0 89 [(0, .ref x0), (2, .int x2), (3, .int x3)] [] SH M := by
  unfold f_X12_taps_89 at hf
  refine z_aload_n dX12_taps_89 rfl rfl ?_
  refine z_iconst (v := 0) dX12_taps_90 (by decide) ?_
  obtain ⟨M_1, eM_1, hf⟩ := zl_some hf
  refine zpI fl_X12_115 h0 rfl (Or.inl rfl) eM_1 dX12_taps_91 ?_
  refine z_iload_n dX12_taps_94 rfl rfl ?_
  refine z_if_ne (tgt := 103) dX12_taps_95 (by decide) (fun q_2 => ?_) (fun q_2 => ?_)
  · have hf := (if_neg q_2).symm.trans hf
    refine z_iload_n dX12_taps_103 rfl rfl ?_
    refine z_bipush (v := 100) dX12_taps_104 (by decide) ?_
    refine z_icmp_ne (tgt := 116) dX12_taps_106 (by decide) (fun q_3 => ?_) (fun q_3 => ?_)
    · have hf := (if_neg q_3).symm.trans hf
      refine z_iload_n dX12_taps_116 rfl rfl ?_
      refine z_aload_n dX12_taps_117 rfl rfl ?_
      refine zgI fl_X12_354 h0 (fun _ => rfl) dX12_taps_118 ?_
      refine z_icmp_ge (tgt := 133) dX12_taps_121 (by decide) (fun q_4 => ?_) (fun q_4 => ?_)
      · have hf := (if_pos q_4).symm.trans hf
        refine z_bipush (v := (-4)) dX12_taps_133 (by decide) ?_
        obtain ⟨rfl, rfl⟩ := z_end hf
        exact z_iret ⟨rfl, rfl, rfl⟩ (Or.inl rfl) dX12_taps_135
      · have hf := (if_neg q_4).symm.trans hf
        refine z_aload_n dX12_taps_124 rfl rfl ?_
        obtain ⟨a_5, ra_5, hf⟩ := z_rd_some hf
        refine zgR fl_X12_87 h0 (fun _ => rfl) ra_5 dX12_taps_125 (fun ha_5 => ?_)
        refine z_iload_n dX12_taps_128 rfl rfl ?_
        obtain ⟨g_6, hf⟩ := z_ifs hf
        refine z_iald ha_5 g_6 rfl dX12_taps_129 ?_
        refine z_goto (tgt := 135) dX12_taps_130 (by decide) ?_
        obtain ⟨rfl, rfl⟩ := z_end hf
        exact z_iret ⟨rfl, rfl, rfl⟩ (Or.inl rfl) dX12_taps_135
    · have hf := (if_pos q_3).symm.trans hf
      refine z_aload_n dX12_taps_109 rfl rfl ?_
      refine zgI fl_X12_354 h0 (fun _ => rfl) dX12_taps_110 ?_
      refine z_goto (tgt := 135) dX12_taps_113 (by decide) ?_
      obtain ⟨rfl, rfl⟩ := z_end hf
      exact z_iret ⟨rfl, rfl, rfl⟩ (Or.inl rfl) dX12_taps_135
  · have hf := (if_pos q_2).symm.trans hf
    refine z_aload_n dX12_taps_98 rfl rfl ?_
    refine zgI fl_X12_133 h0 (fun _ => rfl) dX12_taps_99 ?_
    obtain ⟨rfl, rfl⟩ := z_end hf
    exact z_iret ⟨rfl, rfl, rfl⟩ (Or.inl rfl) dX12_taps_102
noncomputable def f_X12_taps_85 (x0 : Nat) (x2 : Int32) (k51 : Int32 → zM → Option (Int32 × zM)) (s0 : Int32) (M : zM) : Option (Int32 × zM) :=
  (k51 s0 M)
set_option maxHeartbeats 2000000 in
set_option maxRecDepth 20000 in
theorem t_X12_taps_85 {l : Launch} {x0 : Nat} {x2 : Int32} {k51 : Int32 → zM → Option (Int32 × zM)} {s0 : Int32} {M MO : zM} {v : Int32} (h0 : z_tm SH 11 x0) (hk51 : ∀ (x3 : Int32) (M : zM), k51 x3 M = some (v, MO) → zA l yX12_taps cX12_taps 4 (some .int) 4 0 0 SH.length (zDi SH v MO) 0 0 51 [(0, .ref x0), (2, .int x2), (3, .int x3)] [] SH M) (hf : f_X12_taps_85 x0 x2 k51 s0 M = some (v, MO)) : zA l yX12_taps cX12_taps 4 (some .int) 4 0 0 SH.length (zDi SH v MO) 0 0 85 [(0, .ref x0), (2, .int x2)] [.int s0] SH M := by
  unfold f_X12_taps_85 at hf
  refine z_istore_n' (lv' := [(3, .int s0), (0, .ref x0), (2, .int x2)]) rfl dX12_taps_85 (by decide) rfl rfl ?_
  refine z_goto (tgt := 51) dX12_taps_86 (by decide) ?_
  refine zA.pick [(0, .ref x0), (2, .int x2), (3, .int s0)] [1, 2, 0] rfl ?_
  exact hk51 s0 M hf
noncomputable def f_X12_taps_84 (x0 : Nat) (x2 : Int32) (k51 : Int32 → zM → Option (Int32 × zM)) (M : zM) : Option (Int32 × zM) :=
  (f_X12_taps_85 x0 x2 k51 0 M)
set_option maxHeartbeats 2000000 in
set_option maxRecDepth 20000 in
theorem t_X12_taps_84 {l : Launch} {x0 : Nat} {x2 : Int32} {k51 : Int32 → zM → Option (Int32 × zM)} {M MO : zM} {v : Int32} (h0 : z_tm SH 11 x0) (hk51 : ∀ (x3 : Int32) (M : zM), k51 x3 M = some (v, MO) → zA l yX12_taps cX12_taps 4 (some .int) 4 0 0 SH.length (zDi SH v MO) 0 0 51 [(0, .ref x0), (2, .int x2), (3, .int x3)] [] SH M) (hf : f_X12_taps_84 x0 x2 k51 M = some (v, MO)) : zA l yX12_taps cX12_taps 4 (some .int) 4 0 0 SH.length (zDi SH v MO) 0 0 84 [(0, .ref x0), (2, .int x2)] [] SH M := by
  unfold f_X12_taps_84 at hf
  refine z_iconst (v := 0) dX12_taps_84 (by decide) ?_
  exact t_X12_taps_85 h0 hk51 hf
noncomputable def f_X12_taps_51 (x0 : Nat) (x2 : Int32) : Nat → Int32 → zM → Option (Int32 × zM)
  | 0, _, _ => none
  | n + 1, x3, M =>
    (if x3 = 0 then (f_X12_taps_89 x0 x2 x3 M) else (if (M.1 x0 6) ≤ (M.1 x0 5) then (f_X12_taps_89 x0 x2 x3 M) else z_call (f_X12_readsPause x0 M) fun v_3 M_4 => (if v_3 = 0 then (f_X12_taps_84 x0 x2 (f_X12_taps_51 x0 x2 n) M_4) else z_call (f_X12_readsLetter x0 M_4) fun v_7 M_8 => (if v_7 = 0 then (f_X12_taps_84 x0 x2 (f_X12_taps_51 x0 x2 n) M_8) else (f_X12_taps_85 x0 x2 (f_X12_taps_51 x0 x2 n) 1 M_8)))))
set_option maxHeartbeats 2000000 in
set_option maxRecDepth 20000 in
theorem t_X12_taps_51 {l : Launch} {x0 : Nat} {x2 : Int32} {MO : zM} {v : Int32} (h0 : z_tm SH 11 x0) : ∀ (n : Nat) (x3 : Int32) (M : zM), f_X12_taps_51 x0 x2 n x3 M = some (v, MO) → zA l yX12_taps cX12_taps 4 (some .int) 4 0 0 SH.length (zDi SH v MO) 0 0 51 [(0, .ref x0), (2, .int x2), (3, .int x3)] [] SH M := by
  intro n
  induction n with
  | zero =>
    intro x3 M hf
    rw [f_X12_taps_51] at hf
    cases hf
  | succ n ih =>
    intro x3 M hf
    rw [f_X12_taps_51] at hf
    refine z_iload_n dX12_taps_51 rfl rfl ?_
    refine z_if_eq (tgt := 89) dX12_taps_52 (by decide) (fun q_1 => ?_) (fun q_1 => ?_)
    · have hf := (if_pos q_1).symm.trans hf
      exact t_X12_taps_89 h0 hf
    · have hf := (if_neg q_1).symm.trans hf
      refine z_aload_n dX12_taps_55 rfl rfl ?_
      refine zgI fl_X12_123 h0 (fun _ => rfl) dX12_taps_56 ?_
      refine z_aload_n dX12_taps_59 rfl rfl ?_
      refine zgI fl_X12_126 h0 (fun _ => rfl) dX12_taps_60 ?_
      refine z_icmp_ge (tgt := 89) dX12_taps_63 (by decide) (fun q_2 => ?_) (fun q_2 => ?_)
      · have hf := (if_pos q_2).symm.trans hf
        exact t_X12_taps_89 h0 hf
      · have hf := (if_neg q_2).symm.trans hf
        refine z_aload_n dX12_taps_66 rfl rfl ?_
        obtain ⟨v_3, M_4, c_5, hf⟩ := z_call_some hf
        refine z_cVi (t_X12_readsPause h0 c_5) kw_X12_readsPause lk_X12_360 h0 rfl (by decide) rfl (Nat.le_of_ble_eq_true rfl) ⟨Nat.le_refl 0, Nat.le_refl 0⟩ dX12_taps_67 ?_
        refine z_if_eq (tgt := 84) dX12_taps_70 (by decide) (fun q_6 => ?_) (fun q_6 => ?_)
        · have hf := (if_pos q_6).symm.trans hf
          refine zA.pick [(0, .ref x0), (2, .int x2)] [0, 1] rfl ?_
          exact t_X12_taps_84 h0 ih hf
        · have hf := (if_neg q_6).symm.trans hf
          refine z_aload_n dX12_taps_73 rfl rfl ?_
          obtain ⟨v_7, M_8, c_9, hf⟩ := z_call_some hf
          refine z_cVi (t_X12_readsLetter h0 c_9) kw_X12_readsLetter lk_X12_357 h0 rfl (by decide) rfl (Nat.le_of_ble_eq_true rfl) ⟨Nat.le_refl 0, Nat.le_refl 0⟩ dX12_taps_74 ?_
          refine z_if_eq (tgt := 84) dX12_taps_77 (by decide) (fun q_10 => ?_) (fun q_10 => ?_)
          · have hf := (if_pos q_10).symm.trans hf
            refine zA.pick [(0, .ref x0), (2, .int x2)] [0, 1] rfl ?_
            exact t_X12_taps_84 h0 ih hf
          · have hf := (if_neg q_10).symm.trans hf
            refine z_iconst (v := 1) dX12_taps_80 (by decide) ?_
            refine z_goto (tgt := 85) dX12_taps_81 (by decide) ?_
            refine zA.pick [(0, .ref x0), (2, .int x2)] [0, 1] rfl ?_
            exact t_X12_taps_85 h0 ih hf
noncomputable def f_X12_taps_26 (x0 : Nat) (x1 : Int32) (x2 : Int32) (M : zM) : Option (Int32 × zM) :=
  (if x1 ≤ (M.1 x0 4) then z_call (f_X12_beginsText x0 x1 M) fun v_2 M_3 => zl (zu M_3.1 x0 40 0, M_3.2) fun M_5 => z_call (f_X12_readsLetter x0 M_5) fun v_6 M_7 => (f_X12_taps_51 x0 x2 zF v_6 M_7) else some ((-1), M))
set_option maxHeartbeats 2000000 in
set_option maxRecDepth 20000 in
theorem t_X12_taps_26 {l : Launch} {x0 : Nat} {x1 : Int32} {x2 : Int32} {M MO : zM} {v : Int32} (h0 : z_tm SH 11 x0) (hf : f_X12_taps_26 x0 x1 x2 M = some (v, MO)) : zA l yX12_taps cX12_taps 4 (some .int) 4 0 0 SH.length (zDi SH v MO) 0 0 26 [(0, .ref x0), (1, .int x1), (2, .int x2)] [] SH M := by
  unfold f_X12_taps_26 at hf
  refine z_iload_n dX12_taps_26 rfl rfl ?_
  refine z_aload_n dX12_taps_27 rfl rfl ?_
  refine zgI fl_X12_115 h0 (fun _ => rfl) dX12_taps_28 ?_
  refine z_icmp_le (tgt := 36) dX12_taps_31 (by decide) (fun q_1 => ?_) (fun q_1 => ?_)
  · have hf := (if_pos q_1).symm.trans hf
    refine z_aload_n dX12_taps_36 rfl rfl ?_
    refine z_iload_n dX12_taps_37 rfl rfl ?_
    obtain ⟨v_2, M_3, c_4, hf⟩ := z_call_some hf
    refine z_cVv (t_X12_beginsText h0 c_4) kw_X12_beginsText lk_X12_208 h0 rfl (by decide) rfl (Nat.le_of_ble_eq_true rfl) ⟨Nat.le_refl 0, Nat.le_refl 0⟩ dX12_taps_38 ?_
    refine z_aload_n dX12_taps_41 rfl rfl ?_
    refine z_iconst (v := 0) dX12_taps_42 (by decide) ?_
    obtain ⟨M_5, eM_5, hf⟩ := zl_some hf
    refine zpI fl_X12_354 h0 rfl (Or.inl rfl) eM_5 dX12_taps_43 ?_
    refine z_aload_n dX12_taps_46 rfl rfl ?_
    obtain ⟨v_6, M_7, c_8, hf⟩ := z_call_some hf
    refine z_cVi (t_X12_readsLetter h0 c_8) kw_X12_readsLetter lk_X12_357 h0 rfl (by decide) rfl (Nat.le_of_ble_eq_true rfl) ⟨Nat.le_refl 0, Nat.le_refl 0⟩ dX12_taps_47 ?_
    refine z_istore_n' (lv' := [(3, .int v_6), (0, .ref x0), (1, .int x1), (2, .int x2)]) rfl dX12_taps_50 (by decide) rfl rfl ?_
    refine zA.pick [(0, .ref x0), (2, .int x2), (3, .int v_6)] [1, 3, 0] rfl ?_
    exact t_X12_taps_51 h0 zF v_6 M_7 hf
  · have hf := (if_neg q_1).symm.trans hf
    refine z_iconst (v := (-1)) dX12_taps_34 (by decide) ?_
    obtain ⟨rfl, rfl⟩ := z_end hf
    exact z_iret ⟨rfl, rfl, rfl⟩ (Or.inl rfl) dX12_taps_35
noncomputable def f_X12_taps (x0 : Nat) (x1 : Int32) (x2 : Int32) (M : zM) : Option (Int32 × zM) :=
  z_call (f_X12_in x1 1 60 M) fun v_1 M_2 => (if v_1 = 0 then some ((-1), M_2) else z_call (f_X12_in x2 0 19 M_2) fun v_5 M_6 => (if v_5 = 0 then (if x2 = 100 then (f_X12_taps_26 x0 x1 x2 M_6) else some ((-1), M_6)) else (f_X12_taps_26 x0 x1 x2 M_6)))
set_option maxHeartbeats 2000000 in
set_option maxRecDepth 20000 in
theorem t_X12_taps {l : Launch} {x0 : Nat} {x1 : Int32} {x2 : Int32} {M MO : zM} {v : Int32} (h0 : z_tm SH 11 x0) (hf : f_X12_taps x0 x1 x2 M = some (v, MO)) : zMet l yX12_taps cX12_taps 4 (some .int) 4 0 0 [.ref x0, .int x1, .int x2] SH M (zDi SH v MO) := by
  refine zMet.of (by decide +kernel) (Nat.le_of_ble_eq_true rfl) (Or.inr (Or.inl rfl)) ?_
  show zA l yX12_taps cX12_taps 4 (some .int) 4 0 0 SH.length (zDi SH v MO) 0 0 0 [(0, .ref x0), (1, .int x1), (2, .int x2)] [] SH M
  unfold f_X12_taps at hf
  refine z_iload_n dX12_taps_0 rfl rfl ?_
  refine z_iconst (v := 1) dX12_taps_1 (by decide) ?_
  refine z_bipush (v := 60) dX12_taps_2 (by decide) ?_
  obtain ⟨v_1, M_2, c_3, hf⟩ := z_call_some hf
  refine z_cSi (t_X12_in  c_3) kw_X12_in lk_X12_90 rfl (by decide) rfl (Nat.le_of_ble_eq_true rfl) ⟨Nat.le_refl 0, Nat.le_refl 0⟩ dX12_taps_4 ?_
  refine z_if_eq (tgt := 34) dX12_taps_7 (by decide) (fun q_4 => ?_) (fun q_4 => ?_)
  · have hf := (if_pos q_4).symm.trans hf
    refine z_iconst (v := (-1)) dX12_taps_34 (by decide) ?_
    obtain ⟨rfl, rfl⟩ := z_end hf
    exact z_iret ⟨rfl, rfl, rfl⟩ (Or.inl rfl) dX12_taps_35
  · have hf := (if_neg q_4).symm.trans hf
    refine z_iload_n dX12_taps_10 rfl rfl ?_
    refine z_iconst (v := 0) dX12_taps_11 (by decide) ?_
    refine z_bipush (v := 19) dX12_taps_12 (by decide) ?_
    obtain ⟨v_5, M_6, c_7, hf⟩ := z_call_some hf
    refine z_cSi (t_X12_in  c_7) kw_X12_in lk_X12_90 rfl (by decide) rfl (Nat.le_of_ble_eq_true rfl) ⟨Nat.le_refl 0, Nat.le_refl 0⟩ dX12_taps_14 ?_
    refine z_if_ne (tgt := 26) dX12_taps_17 (by decide) (fun q_8 => ?_) (fun q_8 => ?_)
    · have hf := (if_neg q_8).symm.trans hf
      exact t_X12_taps_26 h0 hf
    · have hf := (if_pos q_8).symm.trans hf
      refine z_iload_n dX12_taps_20 rfl rfl ?_
      refine z_bipush (v := 100) dX12_taps_21 (by decide) ?_
      refine z_icmp_ne (tgt := 34) dX12_taps_23 (by decide) (fun q_9 => ?_) (fun q_9 => ?_)
      · have hf := (if_neg q_9).symm.trans hf
        refine z_iconst (v := (-1)) dX12_taps_34 (by decide) ?_
        obtain ⟨rfl, rfl⟩ := z_end hf
        exact z_iret ⟨rfl, rfl, rfl⟩ (Or.inl rfl) dX12_taps_35
      · have hf := (if_pos q_9).symm.trans hf
        exact t_X12_taps_26 h0 hf
noncomputable def f_X12_tapped_88 (x0 : Nat) (x1 : Int32) (k33 : Int32 → Int32 → zM → Option (Int32 × zM)) (x2 : Int32) (x3 : Int32) (x4 : Int32) (M : zM) : Option (Int32 × zM) :=
  zl ((((x2 + (x4 / 5)) + (x4 - x4 / 5 * 5)) + 3)) fun x2_1 => zl (x3 + 1) fun x3_2 => (k33 x2_1 x3_2 M)
set_option maxHeartbeats 2000000 in
set_option maxRecDepth 20000 in
theorem t_X12_tapped_88 {l : Launch} {x0 : Nat} {x1 : Int32} {k33 : Int32 → Int32 → zM → Option (Int32 × zM)} {x2 : Int32} {x3 : Int32} {x4 : Int32} {M MO : zM} {v : Int32} (h0 : z_tm SH 11 x0) (hk33 : ∀ (x2 : Int32) (x3 : Int32) (M : zM), k33 x2 x3 M = some (v, MO) → zA l yX12_tapped cX12_tapped 5 (some .int) 2 0 0 SH.length (zDi SH v MO) 0 0 33 [(0, .ref x0), (1, .int x1), (2, .int x2), (3, .int x3)] [] SH M) (hf : f_X12_tapped_88 x0 x1 k33 x2 x3 x4 M = some (v, MO)) : zA l yX12_tapped cX12_tapped 5 (some .int) 2 0 0 SH.length (zDi SH v MO) 0 0 88 [(0, .ref x0), (1, .int x1), (2, .int x2), (3, .int x3), (4, .int x4)] [] SH M := by
  unfold f_X12_tapped_88 at hf
  refine z_iload_n dX12_tapped_88 rfl rfl ?_
  refine z_iload dX12_tapped_89 rfl ?_
  refine z_iconst (v := 5) dX12_tapped_91 (by decide) ?_
  refine z_idiv dX12_tapped_92 (by decide) ?_
  refine z_iadd dX12_tapped_93 ?_
  refine z_iload dX12_tapped_94 rfl ?_
  refine z_iconst (v := 5) dX12_tapped_96 (by decide) ?_
  refine z_irem dX12_tapped_97 (by decide) ?_
  refine z_iadd dX12_tapped_98 ?_
  refine z_iconst (v := 3) dX12_tapped_99 (by decide) ?_
  refine z_iadd dX12_tapped_100 ?_
  obtain ⟨x2_1, ex2_1, hf⟩ := zl_some hf
  refine z_istore_n' (lv' := [(2, .int x2_1), (0, .ref x0), (1, .int x1), (3, .int x3), (4, .int x4)]) rfl dX12_tapped_101 (by decide) ex2_1 rfl ?_
  obtain ⟨x3_2, ex3_2, hf⟩ := zl_some hf
  refine z_iinc' (lv' := [(3, .int x3_2), (2, .int x2_1), (0, .ref x0), (1, .int x1), (4, .int x4)]) dX12_tapped_102 rfl (by decide) ex3_2 (by decide) rfl ?_
  refine z_goto (tgt := 33) dX12_tapped_105 (by decide) ?_
  refine zA.pick [(0, .ref x0), (1, .int x1), (2, .int x2_1), (3, .int x3_2)] [2, 3, 1, 0] rfl ?_
  exact hk33 x2_1 x3_2 M hf
noncomputable def f_X12_tapped_75 (x0 : Nat) (x1 : Int32) (k33 : Int32 → Int32 → zM → Option (Int32 × zM)) (x2 : Int32) (x3 : Int32) (x4 : Int32) (M : zM) : Option (Int32 × zM) :=
  (if x4 ≤ 10 then (f_X12_tapped_88 x0 x1 k33 x2 x3 x4 M) else zl ((x4 - 1)) fun x4_2 => (f_X12_tapped_88 x0 x1 k33 x2 x3 x4_2 M))
set_option maxHeartbeats 2000000 in
set_option maxRecDepth 20000 in
theorem t_X12_tapped_75 {l : Launch} {x0 : Nat} {x1 : Int32} {k33 : Int32 → Int32 → zM → Option (Int32 × zM)} {x2 : Int32} {x3 : Int32} {x4 : Int32} {M MO : zM} {v : Int32} (h0 : z_tm SH 11 x0) (hk33 : ∀ (x2 : Int32) (x3 : Int32) (M : zM), k33 x2 x3 M = some (v, MO) → zA l yX12_tapped cX12_tapped 5 (some .int) 2 0 0 SH.length (zDi SH v MO) 0 0 33 [(0, .ref x0), (1, .int x1), (2, .int x2), (3, .int x3)] [] SH M) (hf : f_X12_tapped_75 x0 x1 k33 x2 x3 x4 M = some (v, MO)) : zA l yX12_tapped cX12_tapped 5 (some .int) 2 0 0 SH.length (zDi SH v MO) 0 0 75 [(0, .ref x0), (1, .int x1), (2, .int x2), (3, .int x3), (4, .int x4)] [] SH M := by
  unfold f_X12_tapped_75 at hf
  refine z_iload dX12_tapped_75 rfl ?_
  refine z_bipush (v := 10) dX12_tapped_77 (by decide) ?_
  refine z_icmp_le (tgt := 88) dX12_tapped_79 (by decide) (fun q_1 => ?_) (fun q_1 => ?_)
  · have hf := (if_pos q_1).symm.trans hf
    exact t_X12_tapped_88 h0 hk33 hf
  · have hf := (if_neg q_1).symm.trans hf
    refine z_iload dX12_tapped_82 rfl ?_
    refine z_iconst (v := 1) dX12_tapped_84 (by decide) ?_
    refine z_isub dX12_tapped_85 ?_
    obtain ⟨x4_2, ex4_2, hf⟩ := zl_some hf
    refine z_istore' (lv' := [(4, .int x4_2), (0, .ref x0), (1, .int x1), (2, .int x2), (3, .int x3)]) dX12_tapped_86 (by decide) ex4_2 rfl ?_
    refine zA.pick [(0, .ref x0), (1, .int x1), (2, .int x2), (3, .int x3), (4, .int x4_2)] [1, 2, 3, 4, 0] rfl ?_
    exact t_X12_tapped_88 h0 hk33 hf
noncomputable def f_X12_tapped_33 (x0 : Nat) (x1 : Int32) : Nat → Int32 → Int32 → zM → Option (Int32 × zM)
  | 0, _, _, _ => none
  | n + 1, x2, x3, M =>
    (if x1 ≤ x3 then some (x2, M) else z_call (f_X12_octet x0 x3 M) fun v_2 M_3 => zl ((v_2 - 65)) fun x4_5 => z_call (f_X12_in x4_5 0 25 M_3) fun v_6 M_7 => (if v_6 = 0 then some (((-1000) - x3), M_7) else (if x4_5 = 10 then (f_X12_tapped_75 x0 x1 (f_X12_tapped_33 x0 x1 n) x2 x3 2 M_7) else (f_X12_tapped_75 x0 x1 (f_X12_tapped_33 x0 x1 n) x2 x3 x4_5 M_7))))
set_option maxHeartbeats 2000000 in
set_option maxRecDepth 20000 in
theorem t_X12_tapped_33 {l : Launch} {x0 : Nat} {x1 : Int32} {MO : zM} {v : Int32} (h0 : z_tm SH 11 x0) : ∀ (n : Nat) (x2 : Int32) (x3 : Int32) (M : zM), f_X12_tapped_33 x0 x1 n x2 x3 M = some (v, MO) → zA l yX12_tapped cX12_tapped 5 (some .int) 2 0 0 SH.length (zDi SH v MO) 0 0 33 [(0, .ref x0), (1, .int x1), (2, .int x2), (3, .int x3)] [] SH M := by
  intro n
  induction n with
  | zero =>
    intro x2 x3 M hf
    rw [f_X12_tapped_33] at hf
    cases hf
  | succ n ih =>
    intro x2 x3 M hf
    rw [f_X12_tapped_33] at hf
    refine z_iload_n dX12_tapped_33 rfl rfl ?_
    refine z_iload_n dX12_tapped_34 rfl rfl ?_
    refine z_icmp_ge (tgt := 108) dX12_tapped_35 (by decide) (fun q_1 => ?_) (fun q_1 => ?_)
    · have hf := (if_pos q_1).symm.trans hf
      refine z_iload_n dX12_tapped_108 rfl rfl ?_
      obtain ⟨rfl, rfl⟩ := z_end hf
      exact z_iret ⟨rfl, rfl, rfl⟩ (Or.inl rfl) dX12_tapped_109
    · have hf := (if_neg q_1).symm.trans hf
      refine z_aload_n dX12_tapped_38 rfl rfl ?_
      refine z_iload_n dX12_tapped_39 rfl rfl ?_
      obtain ⟨v_2, M_3, c_4, hf⟩ := z_call_some hf
      refine z_cVi (t_X12_octet h0 c_4) kw_X12_octet lk_X12_338 h0 rfl (by decide) rfl (Nat.le_of_ble_eq_true rfl) ⟨Nat.le_refl 0, Nat.le_refl 0⟩ dX12_tapped_40 ?_
      refine z_bipush (v := 65) dX12_tapped_43 (by decide) ?_
      refine z_isub dX12_tapped_45 ?_
      obtain ⟨x4_5, ex4_5, hf⟩ := zl_some hf
      refine z_istore' (lv' := [(4, .int x4_5), (0, .ref x0), (1, .int x1), (2, .int x2), (3, .int x3)]) dX12_tapped_46 (by decide) ex4_5 rfl ?_
      refine z_iload dX12_tapped_48 rfl ?_
      refine z_iconst (v := 0) dX12_tapped_50 (by decide) ?_
      refine z_bipush (v := 25) dX12_tapped_51 (by decide) ?_
      obtain ⟨v_6, M_7, c_8, hf⟩ := z_call_some hf
      refine z_cSi (t_X12_in  c_8) kw_X12_in lk_X12_90 rfl (by decide) rfl (Nat.le_of_ble_eq_true rfl) ⟨Nat.le_refl 0, Nat.le_refl 0⟩ dX12_tapped_53 ?_
      refine z_if_ne (tgt := 65) dX12_tapped_56 (by decide) (fun q_9 => ?_) (fun q_9 => ?_)
      · have hf := (if_neg q_9).symm.trans hf
        refine z_iload dX12_tapped_65 rfl ?_
        refine z_bipush (v := 10) dX12_tapped_67 (by decide) ?_
        refine z_icmp_ne (tgt := 75) dX12_tapped_69 (by decide) (fun q_10 => ?_) (fun q_10 => ?_)
        · have hf := (if_neg q_10).symm.trans hf
          refine zA.pick [(0, .ref x0), (1, .int x1), (2, .int x2), (3, .int x3), (4, .int x4_5)] [1, 2, 3, 4, 0] rfl ?_
          exact t_X12_tapped_75 h0 ih hf
        · have hf := (if_pos q_10).symm.trans hf
          refine z_iconst (v := 2) dX12_tapped_72 (by decide) ?_
          refine z_istore' (lv' := [(4, .int 2), (0, .ref x0), (1, .int x1), (2, .int x2), (3, .int x3)]) dX12_tapped_73 (by decide) rfl rfl ?_
          refine zA.pick [(0, .ref x0), (1, .int x1), (2, .int x2), (3, .int x3), (4, .int 2)] [1, 2, 3, 4, 0] rfl ?_
          exact t_X12_tapped_75 h0 ih hf
      · have hf := (if_pos q_9).symm.trans hf
        refine z_sipush (v := (-1000)) dX12_tapped_59 (by decide) ?_
        refine z_iload_n dX12_tapped_62 rfl rfl ?_
        refine z_isub dX12_tapped_63 ?_
        obtain ⟨rfl, rfl⟩ := z_end hf
        exact z_iret ⟨rfl, rfl, rfl⟩ (Or.inl rfl) dX12_tapped_64
noncomputable def f_X12_tapped (x0 : Nat) (x1 : Int32) (M : zM) : Option (Int32 × zM) :=
  z_call (f_X12_in x1 1 40 M) fun v_1 M_2 => (if v_1 = 0 then some ((-1), M_2) else (if x1 ≤ (M_2.1 x0 4) then zl (zu M_2.1 x0 4 0, M_2.2) fun M_6 => zl (((2 * x1) - 2)) fun x2_7 => (f_X12_tapped_33 x0 x1 zF x2_7 0 M_6) else some ((-1), M_2)))
set_option maxHeartbeats 2000000 in
set_option maxRecDepth 20000 in
theorem t_X12_tapped {l : Launch} {x0 : Nat} {x1 : Int32} {M MO : zM} {v : Int32} (h0 : z_tm SH 11 x0) (hf : f_X12_tapped x0 x1 M = some (v, MO)) : zMet l yX12_tapped cX12_tapped 5 (some .int) 2 0 0 [.ref x0, .int x1] SH M (zDi SH v MO) := by
  refine zMet.of (by decide +kernel) (Nat.le_of_ble_eq_true rfl) (Or.inr (Or.inl rfl)) ?_
  show zA l yX12_tapped cX12_tapped 5 (some .int) 2 0 0 SH.length (zDi SH v MO) 0 0 0 [(0, .ref x0), (1, .int x1)] [] SH M
  unfold f_X12_tapped at hf
  refine z_iload_n dX12_tapped_0 rfl rfl ?_
  refine z_iconst (v := 1) dX12_tapped_1 (by decide) ?_
  refine z_bipush (v := 40) dX12_tapped_2 (by decide) ?_
  obtain ⟨v_1, M_2, c_3, hf⟩ := z_call_some hf
  refine z_cSi (t_X12_in  c_3) kw_X12_in lk_X12_90 rfl (by decide) rfl (Nat.le_of_ble_eq_true rfl) ⟨Nat.le_refl 0, Nat.le_refl 0⟩ dX12_tapped_4 ?_
  refine z_if_eq (tgt := 18) dX12_tapped_7 (by decide) (fun q_4 => ?_) (fun q_4 => ?_)
  · have hf := (if_pos q_4).symm.trans hf
    refine z_iconst (v := (-1)) dX12_tapped_18 (by decide) ?_
    obtain ⟨rfl, rfl⟩ := z_end hf
    exact z_iret ⟨rfl, rfl, rfl⟩ (Or.inl rfl) dX12_tapped_19
  · have hf := (if_neg q_4).symm.trans hf
    refine z_iload_n dX12_tapped_10 rfl rfl ?_
    refine z_aload_n dX12_tapped_11 rfl rfl ?_
    refine zgI fl_X12_115 h0 (fun _ => rfl) dX12_tapped_12 ?_
    refine z_icmp_le (tgt := 20) dX12_tapped_15 (by decide) (fun q_5 => ?_) (fun q_5 => ?_)
    · have hf := (if_pos q_5).symm.trans hf
      refine z_aload_n dX12_tapped_20 rfl rfl ?_
      refine z_iconst (v := 0) dX12_tapped_21 (by decide) ?_
      obtain ⟨M_6, eM_6, hf⟩ := zl_some hf
      refine zpI fl_X12_115 h0 rfl (Or.inl rfl) eM_6 dX12_tapped_22 ?_
      refine z_iconst (v := 2) dX12_tapped_25 (by decide) ?_
      refine z_iload_n dX12_tapped_26 rfl rfl ?_
      refine z_imul dX12_tapped_27 ?_
      refine z_iconst (v := 2) dX12_tapped_28 (by decide) ?_
      refine z_isub dX12_tapped_29 ?_
      obtain ⟨x2_7, ex2_7, hf⟩ := zl_some hf
      refine z_istore_n' (lv' := [(2, .int x2_7), (0, .ref x0), (1, .int x1)]) rfl dX12_tapped_30 (by decide) ex2_7 rfl ?_
      refine z_iconst (v := 0) dX12_tapped_31 (by decide) ?_
      refine z_istore_n' (lv' := [(3, .int 0), (2, .int x2_7), (0, .ref x0), (1, .int x1)]) rfl dX12_tapped_32 (by decide) rfl rfl ?_
      refine zA.pick [(0, .ref x0), (1, .int x1), (2, .int x2_7), (3, .int 0)] [2, 3, 1, 0] rfl ?_
      exact t_X12_tapped_33 h0 zF x2_7 0 M_6 hf
    · have hf := (if_neg q_5).symm.trans hf
      refine z_iconst (v := (-1)) dX12_tapped_18 (by decide) ?_
      obtain ⟨rfl, rfl⟩ := z_end hf
      exact z_iret ⟨rfl, rfl, rfl⟩ (Or.inl rfl) dX12_tapped_19
noncomputable def f_X12_roundOf_8 (x0 : Nat) (x1 : Int32) : Nat → Int32 → Int32 → zM → Option (Int32 × zM)
  | 0, _, _, _ => none
  | n + 1, x2, x3, M =>
    (if x3 = x1 then some (x2, M) else z_call (f_X12_octet x0 x3 M) fun v_2 M_3 => zl ((x2 + 1)) fun x2_5 => (f_X12_roundOf_8 x0 x1 n x2_5 v_2 M_3))
set_option maxHeartbeats 2000000 in
set_option maxRecDepth 20000 in
theorem t_X12_roundOf_8 {l : Launch} {x0 : Nat} {x1 : Int32} {MO : zM} {v : Int32} (h0 : z_tm SH 11 x0) : ∀ (n : Nat) (x2 : Int32) (x3 : Int32) (M : zM), f_X12_roundOf_8 x0 x1 n x2 x3 M = some (v, MO) → zA l yX12_roundOf cX12_roundOf 4 (some .int) 2 0 0 SH.length (zDi SH v MO) 0 0 8 [(0, .ref x0), (1, .int x1), (2, .int x2), (3, .int x3)] [] SH M := by
  intro n
  induction n with
  | zero =>
    intro x2 x3 M hf
    rw [f_X12_roundOf_8] at hf
    cases hf
  | succ n ih =>
    intro x2 x3 M hf
    rw [f_X12_roundOf_8] at hf
    refine z_iload_n dX12_roundOf_8 rfl rfl ?_
    refine z_iload_n dX12_roundOf_9 rfl rfl ?_
    refine z_icmp_eq (tgt := 26) dX12_roundOf_10 (by decide) (fun q_1 => ?_) (fun q_1 => ?_)
    · have hf := (if_pos q_1).symm.trans hf
      refine z_iload_n dX12_roundOf_26 rfl rfl ?_
      obtain ⟨rfl, rfl⟩ := z_end hf
      exact z_iret ⟨rfl, rfl, rfl⟩ (Or.inl rfl) dX12_roundOf_27
    · have hf := (if_neg q_1).symm.trans hf
      refine z_aload_n dX12_roundOf_13 rfl rfl ?_
      refine z_iload_n dX12_roundOf_14 rfl rfl ?_
      obtain ⟨v_2, M_3, c_4, hf⟩ := z_call_some hf
      refine z_cVi (t_X12_octet h0 c_4) kw_X12_octet lk_X12_338 h0 rfl (by decide) rfl (Nat.le_of_ble_eq_true rfl) ⟨Nat.le_refl 0, Nat.le_refl 0⟩ dX12_roundOf_15 ?_
      refine z_istore_n' (lv' := [(3, .int v_2), (0, .ref x0), (1, .int x1), (2, .int x2)]) rfl dX12_roundOf_18 (by decide) rfl rfl ?_
      refine z_iload_n dX12_roundOf_19 rfl rfl ?_
      refine z_iconst (v := 1) dX12_roundOf_20 (by decide) ?_
      refine z_iadd dX12_roundOf_21 ?_
      obtain ⟨x2_5, ex2_5, hf⟩ := zl_some hf
      refine z_istore_n' (lv' := [(2, .int x2_5), (3, .int v_2), (0, .ref x0), (1, .int x1)]) rfl dX12_roundOf_22 (by decide) ex2_5 rfl ?_
      refine z_goto (tgt := 8) dX12_roundOf_23 (by decide) ?_
      refine zA.pick [(0, .ref x0), (1, .int x1), (2, .int x2_5), (3, .int v_2)] [2, 3, 0, 1] rfl ?_
      exact ih x2_5 v_2 M_3 hf
noncomputable def f_X12_roundOf (x0 : Nat) (x1 : Int32) (M : zM) : Option (Int32 × zM) :=
  z_call (f_X12_octet x0 x1 M) fun v_1 M_2 => (f_X12_roundOf_8 x0 x1 zF 1 v_1 M_2)
set_option maxHeartbeats 2000000 in
set_option maxRecDepth 20000 in
theorem t_X12_roundOf {l : Launch} {x0 : Nat} {x1 : Int32} {M MO : zM} {v : Int32} (h0 : z_tm SH 11 x0) (hf : f_X12_roundOf x0 x1 M = some (v, MO)) : zMet l yX12_roundOf cX12_roundOf 4 (some .int) 2 0 0 [.ref x0, .int x1] SH M (zDi SH v MO) := by
  refine zMet.of (by decide +kernel) (Nat.le_of_ble_eq_true rfl) (Or.inr (Or.inl rfl)) ?_
  show zA l yX12_roundOf cX12_roundOf 4 (some .int) 2 0 0 SH.length (zDi SH v MO) 0 0 0 [(0, .ref x0), (1, .int x1)] [] SH M
  unfold f_X12_roundOf at hf
  refine z_iconst (v := 1) dX12_roundOf_0 (by decide) ?_
  refine z_istore_n' (lv' := [(2, .int 1), (0, .ref x0), (1, .int x1)]) rfl dX12_roundOf_1 (by decide) rfl rfl ?_
  refine z_aload_n dX12_roundOf_2 rfl rfl ?_
  refine z_iload_n dX12_roundOf_3 rfl rfl ?_
  obtain ⟨v_1, M_2, c_3, hf⟩ := z_call_some hf
  refine z_cVi (t_X12_octet h0 c_3) kw_X12_octet lk_X12_338 h0 rfl (by decide) rfl (Nat.le_of_ble_eq_true rfl) ⟨Nat.le_refl 0, Nat.le_refl 0⟩ dX12_roundOf_4 ?_
  refine z_istore_n' (lv' := [(3, .int v_1), (2, .int 1), (0, .ref x0), (1, .int x1)]) rfl dX12_roundOf_7 (by decide) rfl rfl ?_
  refine zA.pick [(0, .ref x0), (1, .int x1), (2, .int 1), (3, .int v_1)] [2, 3, 1, 0] rfl ?_
  exact t_X12_roundOf_8 h0 zF 1 v_1 M_2 hf
noncomputable def f_X12_isOnceEach_4 (x0 : Nat) (x1 : Int32) : Nat → Int32 → Int32 → zM → Option (Int32 × zM)
  | 0, _, _, _ => none
  | n + 1, x2, x3, M =>
    (if x1 ≤ x3 then some (1, M) else z_call (f_X12_octet x0 x3 M) fun v_2 M_3 => (if x1 ≤ v_2 then some (0, M_3) else z_call (f_X12_octet x0 x3 M_3) fun v_6 M_7 => z_call (f_X12_has x2 v_6 M_7) fun v_9 M_10 => (if v_9 = 0 then z_call (f_X12_octet x0 x3 M_10) fun v_13 M_14 => zl ((x2 ||| ((1 : Int32) <<< (v_13 &&& 31)))) fun x2_16 => zl (x3 + 1) fun x3_17 => (f_X12_isOnceEach_4 x0 x1 n x2_16 x3_17 M_14) else some (0, M_10))))
set_option maxHeartbeats 2000000 in
set_option maxRecDepth 20000 in
theorem t_X12_isOnceEach_4 {l : Launch} {x0 : Nat} {x1 : Int32} {MO : zM} {v : Int32} (h0 : z_tm SH 11 x0) : ∀ (n : Nat) (x2 : Int32) (x3 : Int32) (M : zM), f_X12_isOnceEach_4 x0 x1 n x2 x3 M = some (v, MO) → zA l yX12_isOnceEach cX12_isOnceEach 4 (some .boolean) 2 0 0 SH.length (zDi SH v MO) 0 0 4 [(0, .ref x0), (1, .int x1), (2, .int x2), (3, .int x3)] [] SH M := by
  intro n
  induction n with
  | zero =>
    intro x2 x3 M hf
    rw [f_X12_isOnceEach_4] at hf
    cases hf
  | succ n ih =>
    intro x2 x3 M hf
    rw [f_X12_isOnceEach_4] at hf
    refine z_iload_n dX12_isOnceEach_4 rfl rfl ?_
    refine z_iload_n dX12_isOnceEach_5 rfl rfl ?_
    refine z_icmp_ge (tgt := 48) dX12_isOnceEach_6 (by decide) (fun q_1 => ?_) (fun q_1 => ?_)
    · have hf := (if_pos q_1).symm.trans hf
      refine z_iconst (v := 1) dX12_isOnceEach_48 (by decide) ?_
      obtain ⟨rfl, rfl⟩ := z_end hf
      exact z_iret ⟨rfl, rfl, rfl⟩ (Or.inr ⟨rfl, (Or.inr rfl)⟩) dX12_isOnceEach_49
    · have hf := (if_neg q_1).symm.trans hf
      refine z_aload_n dX12_isOnceEach_9 rfl rfl ?_
      refine z_iload_n dX12_isOnceEach_10 rfl rfl ?_
      obtain ⟨v_2, M_3, c_4, hf⟩ := z_call_some hf
      refine z_cVi (t_X12_octet h0 c_4) kw_X12_octet lk_X12_338 h0 rfl (by decide) rfl (Nat.le_of_ble_eq_true rfl) ⟨Nat.le_refl 0, Nat.le_refl 0⟩ dX12_isOnceEach_11 ?_
      refine z_iload_n dX12_isOnceEach_14 rfl rfl ?_
      refine z_icmp_ge (tgt := 30) dX12_isOnceEach_15 (by decide) (fun q_5 => ?_) (fun q_5 => ?_)
      · have hf := (if_pos q_5).symm.trans hf
        refine z_iconst (v := 0) dX12_isOnceEach_30 (by decide) ?_
        obtain ⟨rfl, rfl⟩ := z_end hf
        exact z_iret ⟨rfl, rfl, rfl⟩ (Or.inr ⟨rfl, (Or.inl rfl)⟩) dX12_isOnceEach_31
      · have hf := (if_neg q_5).symm.trans hf
        refine z_iload_n dX12_isOnceEach_18 rfl rfl ?_
        refine z_aload_n dX12_isOnceEach_19 rfl rfl ?_
        refine z_iload_n dX12_isOnceEach_20 rfl rfl ?_
        obtain ⟨v_6, M_7, c_8, hf⟩ := z_call_some hf
        refine z_cVi (t_X12_octet h0 c_8) kw_X12_octet lk_X12_338 h0 rfl (by decide) rfl (Nat.le_of_ble_eq_true rfl) ⟨Nat.le_refl 0, Nat.le_refl 0⟩ dX12_isOnceEach_21 ?_
        obtain ⟨v_9, M_10, c_11, hf⟩ := z_call_some hf
        refine z_cSi (t_X12_has  c_11) kw_X12_has lk_X12_326 rfl (by decide) rfl (Nat.le_of_ble_eq_true rfl) ⟨Nat.le_refl 0, Nat.le_refl 0⟩ dX12_isOnceEach_24 ?_
        refine z_if_eq (tgt := 32) dX12_isOnceEach_27 (by decide) (fun q_12 => ?_) (fun q_12 => ?_)
        · have hf := (if_pos q_12).symm.trans hf
          refine z_iload_n dX12_isOnceEach_32 rfl rfl ?_
          refine z_iconst (v := 1) dX12_isOnceEach_33 (by decide) ?_
          refine z_aload_n dX12_isOnceEach_34 rfl rfl ?_
          refine z_iload_n dX12_isOnceEach_35 rfl rfl ?_
          obtain ⟨v_13, M_14, c_15, hf⟩ := z_call_some hf
          refine z_cVi (t_X12_octet h0 c_15) kw_X12_octet lk_X12_338 h0 rfl (by decide) rfl (Nat.le_of_ble_eq_true rfl) ⟨Nat.le_refl 0, Nat.le_refl 0⟩ dX12_isOnceEach_36 ?_
          refine z_ishl dX12_isOnceEach_39 ?_
          refine z_ior dX12_isOnceEach_40 ?_
          obtain ⟨x2_16, ex2_16, hf⟩ := zl_some hf
          refine z_istore_n' (lv' := [(2, .int x2_16), (0, .ref x0), (1, .int x1), (3, .int x3)]) rfl dX12_isOnceEach_41 (by decide) ex2_16 rfl ?_
          obtain ⟨x3_17, ex3_17, hf⟩ := zl_some hf
          refine z_iinc' (lv' := [(3, .int x3_17), (2, .int x2_16), (0, .ref x0), (1, .int x1)]) dX12_isOnceEach_42 rfl (by decide) ex3_17 (by decide) rfl ?_
          refine z_goto (tgt := 4) dX12_isOnceEach_45 (by decide) ?_
          refine zA.pick [(0, .ref x0), (1, .int x1), (2, .int x2_16), (3, .int x3_17)] [2, 3, 1, 0] rfl ?_
          exact ih x2_16 x3_17 M_14 hf
        · have hf := (if_neg q_12).symm.trans hf
          refine z_iconst (v := 0) dX12_isOnceEach_30 (by decide) ?_
          obtain ⟨rfl, rfl⟩ := z_end hf
          exact z_iret ⟨rfl, rfl, rfl⟩ (Or.inr ⟨rfl, (Or.inl rfl)⟩) dX12_isOnceEach_31
noncomputable def f_X12_isOnceEach (x0 : Nat) (x1 : Int32) (M : zM) : Option (Int32 × zM) :=
  (f_X12_isOnceEach_4 x0 x1 zF 0 0 M)
set_option maxHeartbeats 2000000 in
set_option maxRecDepth 20000 in
theorem t_X12_isOnceEach {l : Launch} {x0 : Nat} {x1 : Int32} {M MO : zM} {v : Int32} (h0 : z_tm SH 11 x0) (hf : f_X12_isOnceEach x0 x1 M = some (v, MO)) : zMet l yX12_isOnceEach cX12_isOnceEach 4 (some .boolean) 2 0 0 [.ref x0, .int x1] SH M (zDi SH v MO) := by
  refine zMet.of (by decide +kernel) (Nat.le_of_ble_eq_true rfl) (Or.inr (Or.inr (Or.inl rfl))) ?_
  show zA l yX12_isOnceEach cX12_isOnceEach 4 (some .boolean) 2 0 0 SH.length (zDi SH v MO) 0 0 0 [(0, .ref x0), (1, .int x1)] [] SH M
  unfold f_X12_isOnceEach at hf
  refine z_iconst (v := 0) dX12_isOnceEach_0 (by decide) ?_
  refine z_istore_n' (lv' := [(2, .int 0), (0, .ref x0), (1, .int x1)]) rfl dX12_isOnceEach_1 (by decide) rfl rfl ?_
  refine z_iconst (v := 0) dX12_isOnceEach_2 (by decide) ?_
  refine z_istore_n' (lv' := [(3, .int 0), (2, .int 0), (0, .ref x0), (1, .int x1)]) rfl dX12_isOnceEach_3 (by decide) rfl rfl ?_
  refine zA.pick [(0, .ref x0), (1, .int x1), (2, .int 0), (3, .int 0)] [2, 3, 1, 0] rfl ?_
  exact t_X12_isOnceEach_4 h0 zF 0 0 M hf
noncomputable def f_X12_linen_226 (x0 : Nat) (x1 : Int32) (x3 : Int32) (k130 : Int32 → Int32 → Int32 → Int32 → zM → Option (Int32 × zM)) (x4 : Int32) (x5 : Int32) (x6 : Int32) (x7 : Int32) (M : zM) : Option (Int32 × zM) :=
  zl (x7 + 1) fun x7_1 => (k130 x4 x5 x6 x7_1 M)
set_option maxHeartbeats 2000000 in
set_option maxRecDepth 20000 in
theorem t_X12_linen_226 {l : Launch} {x0 : Nat} {x1 : Int32} {x3 : Int32} {k130 : Int32 → Int32 → Int32 → Int32 → zM → Option (Int32 × zM)} {x4 : Int32} {x5 : Int32} {x6 : Int32} {x7 : Int32} {M MO : zM} {v : Int32} (h0 : z_tm SH 11 x0) (hk130 : ∀ (x4 : Int32) (x5 : Int32) (x6 : Int32) (x7 : Int32) (M : zM), k130 x4 x5 x6 x7 M = some (v, MO) → zA l yX12_linen cX12_linen 9 (some .int) 3 0 0 SH.length (zDi SH v MO) 0 0 130 [(0, .ref x0), (1, .int x1), (3, .int x3), (4, .int x4), (5, .int x5), (6, .int x6), (7, .int x7)] [] SH M) (hf : f_X12_linen_226 x0 x1 x3 k130 x4 x5 x6 x7 M = some (v, MO)) : zA l yX12_linen cX12_linen 9 (some .int) 3 0 0 SH.length (zDi SH v MO) 0 0 226 [(0, .ref x0), (1, .int x1), (3, .int x3), (4, .int x4), (5, .int x5), (6, .int x6), (7, .int x7)] [] SH M := by
  unfold f_X12_linen_226 at hf
  obtain ⟨x7_1, ex7_1, hf⟩ := zl_some hf
  refine z_iinc' (lv' := [(7, .int x7_1), (0, .ref x0), (1, .int x1), (3, .int x3), (4, .int x4), (5, .int x5), (6, .int x6)]) dX12_linen_226 rfl (by decide) ex7_1 (by decide) rfl ?_
  refine z_goto (tgt := 130) dX12_linen_229 (by decide) ?_
  refine zA.pick [(0, .ref x0), (1, .int x1), (3, .int x3), (4, .int x4), (5, .int x5), (6, .int x6), (7, .int x7_1)] [1, 2, 3, 4, 5, 6, 0] rfl ?_
  exact hk130 x4 x5 x6 x7_1 M hf
noncomputable def f_X12_linen_197 (x0 : Nat) (x1 : Int32) (x3 : Int32) (k130 : Int32 → Int32 → Int32 → Int32 → zM → Option (Int32 × zM)) : Nat → Int32 → Int32 → Int32 → Int32 → Int32 → zM → Option (Int32 × zM)
  | 0, _, _, _, _, _, _ => none
  | n + 1, x4, x5, x6, x7, x8, M =>
    (if x8 = x7 then (f_X12_linen_226 x0 x1 x3 k130 x4 x5 x6 x7 M) else zl ((x5 &&& (((1 : Int32) <<< (x8 &&& 31)) ^^^ (-1)))) fun x5_2 => z_call (f_X12_octet x0 x8 M) fun v_3 M_4 => (f_X12_linen_197 x0 x1 x3 k130 n x4 x5_2 x6 x7 v_3 M_4))
set_option maxHeartbeats 2000000 in
set_option maxRecDepth 20000 in
theorem t_X12_linen_197 {l : Launch} {x0 : Nat} {x1 : Int32} {x3 : Int32} {k130 : Int32 → Int32 → Int32 → Int32 → zM → Option (Int32 × zM)} {MO : zM} {v : Int32} (h0 : z_tm SH 11 x0) (hk130 : ∀ (x4 : Int32) (x5 : Int32) (x6 : Int32) (x7 : Int32) (M : zM), k130 x4 x5 x6 x7 M = some (v, MO) → zA l yX12_linen cX12_linen 9 (some .int) 3 0 0 SH.length (zDi SH v MO) 0 0 130 [(0, .ref x0), (1, .int x1), (3, .int x3), (4, .int x4), (5, .int x5), (6, .int x6), (7, .int x7)] [] SH M) : ∀ (n : Nat) (x4 : Int32) (x5 : Int32) (x6 : Int32) (x7 : Int32) (x8 : Int32) (M : zM), f_X12_linen_197 x0 x1 x3 k130 n x4 x5 x6 x7 x8 M = some (v, MO) → zA l yX12_linen cX12_linen 9 (some .int) 3 0 0 SH.length (zDi SH v MO) 0 0 197 [(0, .ref x0), (1, .int x1), (3, .int x3), (4, .int x4), (5, .int x5), (6, .int x6), (7, .int x7), (8, .int x8)] [] SH M := by
  intro n
  induction n with
  | zero =>
    intro x4 x5 x6 x7 x8 M hf
    rw [f_X12_linen_197] at hf
    cases hf
  | succ n ih =>
    intro x4 x5 x6 x7 x8 M hf
    rw [f_X12_linen_197] at hf
    refine z_iload dX12_linen_197 rfl ?_
    refine z_iload dX12_linen_199 rfl ?_
    refine z_icmp_eq (tgt := 226) dX12_linen_201 (by decide) (fun q_1 => ?_) (fun q_1 => ?_)
    · have hf := (if_pos q_1).symm.trans hf
      refine zA.pick [(0, .ref x0), (1, .int x1), (3, .int x3), (4, .int x4), (5, .int x5), (6, .int x6), (7, .int x7)] [0, 1, 2, 3, 4, 5, 6] rfl ?_
      exact t_X12_linen_226 h0 hk130 hf
    · have hf := (if_neg q_1).symm.trans hf
      refine z_iload dX12_linen_204 rfl ?_
      refine z_iconst (v := 1) dX12_linen_206 (by decide) ?_
      refine z_iload dX12_linen_207 rfl ?_
      refine z_ishl dX12_linen_209 ?_
      refine z_iconst (v := (-1)) dX12_linen_210 (by decide) ?_
      refine z_ixor dX12_linen_211 ?_
      refine z_iand dX12_linen_212 ?_
      obtain ⟨x5_2, ex5_2, hf⟩ := zl_some hf
      refine z_istore' (lv' := [(5, .int x5_2), (0, .ref x0), (1, .int x1), (3, .int x3), (4, .int x4), (6, .int x6), (7, .int x7), (8, .int x8)]) dX12_linen_213 (by decide) ex5_2 rfl ?_
      refine z_aload_n dX12_linen_215 rfl rfl ?_
      refine z_iload dX12_linen_216 rfl ?_
      obtain ⟨v_3, M_4, c_5, hf⟩ := z_call_some hf
      refine z_cVi (t_X12_octet h0 c_5) kw_X12_octet lk_X12_338 h0 rfl (by decide) rfl (Nat.le_of_ble_eq_true rfl) ⟨Nat.le_refl 0, Nat.le_refl 0⟩ dX12_linen_218 ?_
      refine z_istore' (lv' := [(8, .int v_3), (5, .int x5_2), (0, .ref x0), (1, .int x1), (3, .int x3), (4, .int x4), (6, .int x6), (7, .int x7)]) dX12_linen_221 (by decide) rfl rfl ?_
      refine z_goto (tgt := 197) dX12_linen_223 (by decide) ?_
      refine zA.pick [(0, .ref x0), (1, .int x1), (3, .int x3), (4, .int x4), (5, .int x5_2), (6, .int x6), (7, .int x7), (8, .int v_3)] [2, 3, 4, 5, 1, 6, 7, 0] rfl ?_
      exact ih x4 x5_2 x6 x7 v_3 M_4 hf
noncomputable def f_X12_linen_130 (x0 : Nat) (x1 : Int32) (x3 : Int32) : Nat → Int32 → Int32 → Int32 → Int32 → zM → Option (Int32 × zM)
  | 0, _, _, _, _, _ => none
  | n + 1, x4, x5, x6, x7, M =>
    (if x1 ≤ x7 then (if x3 = 100 then some (x4, M) else some (x6, M)) else z_call (f_X12_roundOf x0 x7 M) fun v_3 M_4 => z_call (f_X12_gcd x4 v_3 M_4) fun v_6 M_7 => if ¬ ((v_6 : Int32) = 0) then z_call (f_X12_roundOf x0 x7 M_7) fun v_10 M_11 => zl (((x4 / v_6) * v_10)) fun x4_13 => z_call (f_X12_has x5 x7 M_11) fun v_14 M_15 => (if v_14 = 0 then (f_X12_linen_226 x0 x1 x3 (f_X12_linen_130 x0 x1 x3 n) x4_13 x5 x6 x7 M_15) else zl ((x6 + 1)) fun x6_18 => z_call (f_X12_octet x0 x7 M_15) fun v_19 M_20 => zl ((x5 &&& (((1 : Int32) <<< (x7 &&& 31)) ^^^ (-1)))) fun x5_22 => (f_X12_linen_197 x0 x1 x3 (f_X12_linen_130 x0 x1 x3 n) zF x4_13 x5_22 x6_18 x7 v_19 M_20)) else none)
set_option maxHeartbeats 2000000 in
set_option maxRecDepth 20000 in
theorem t_X12_linen_130 {l : Launch} {x0 : Nat} {x1 : Int32} {x3 : Int32} {MO : zM} {v : Int32} (h0 : z_tm SH 11 x0) : ∀ (n : Nat) (x4 : Int32) (x5 : Int32) (x6 : Int32) (x7 : Int32) (M : zM), f_X12_linen_130 x0 x1 x3 n x4 x5 x6 x7 M = some (v, MO) → zA l yX12_linen cX12_linen 9 (some .int) 3 0 0 SH.length (zDi SH v MO) 0 0 130 [(0, .ref x0), (1, .int x1), (3, .int x3), (4, .int x4), (5, .int x5), (6, .int x6), (7, .int x7)] [] SH M := by
  intro n
  induction n with
  | zero =>
    intro x4 x5 x6 x7 M hf
    rw [f_X12_linen_130] at hf
    cases hf
  | succ n ih =>
    intro x4 x5 x6 x7 M hf
    rw [f_X12_linen_130] at hf
    refine z_iload dX12_linen_130 rfl ?_
    refine z_iload_n dX12_linen_132 rfl rfl ?_
    refine z_icmp_ge (tgt := 232) dX12_linen_133 (by decide) (fun q_1 => ?_) (fun q_1 => ?_)
    · have hf := (if_pos q_1).symm.trans hf
      refine z_iload_n dX12_linen_232 rfl rfl ?_
      refine z_bipush (v := 100) dX12_linen_233 (by decide) ?_
      refine z_icmp_ne (tgt := 243) dX12_linen_235 (by decide) (fun q_2 => ?_) (fun q_2 => ?_)
      · have hf := (if_neg q_2).symm.trans hf
        refine z_iload dX12_linen_243 rfl ?_
        obtain ⟨rfl, rfl⟩ := z_end hf
        exact z_iret ⟨rfl, rfl, rfl⟩ (Or.inl rfl) dX12_linen_245
      · have hf := (if_pos q_2).symm.trans hf
        refine z_iload dX12_linen_238 rfl ?_
        refine z_goto (tgt := 245) dX12_linen_240 (by decide) ?_
        obtain ⟨rfl, rfl⟩ := z_end hf
        exact z_iret ⟨rfl, rfl, rfl⟩ (Or.inl rfl) dX12_linen_245
    · have hf := (if_neg q_1).symm.trans hf
      refine z_iload dX12_linen_136 rfl ?_
      refine z_iload dX12_linen_138 rfl ?_
      refine z_aload_n dX12_linen_140 rfl rfl ?_
      refine z_iload dX12_linen_141 rfl ?_
      obtain ⟨v_3, M_4, c_5, hf⟩ := z_call_some hf
      refine z_cVi (t_X12_roundOf h0 c_5) kw_X12_roundOf lk_X12_366 h0 rfl (by decide) rfl (Nat.le_of_ble_eq_true rfl) ⟨Nat.le_refl 0, Nat.le_refl 0⟩ dX12_linen_143 ?_
      obtain ⟨v_6, M_7, c_8, hf⟩ := z_call_some hf
      refine z_cSi (t_X12_gcd  c_8) kw_X12_gcd lk_X12_297 rfl (by decide) rfl (Nat.le_of_ble_eq_true rfl) ⟨Nat.le_refl 0, Nat.le_refl 0⟩ dX12_linen_146 ?_
      obtain ⟨g_9, hf⟩ := z_ifs hf
      refine z_idiv dX12_linen_149 g_9 ?_
      refine z_aload_n dX12_linen_150 rfl rfl ?_
      refine z_iload dX12_linen_151 rfl ?_
      obtain ⟨v_10, M_11, c_12, hf⟩ := z_call_some hf
      refine z_cVi (t_X12_roundOf h0 c_12) kw_X12_roundOf lk_X12_366 h0 rfl (by decide) rfl (Nat.le_of_ble_eq_true rfl) ⟨Nat.le_refl 0, Nat.le_refl 0⟩ dX12_linen_153 ?_
      refine z_imul dX12_linen_156 ?_
      obtain ⟨x4_13, ex4_13, hf⟩ := zl_some hf
      refine z_istore' (lv' := [(4, .int x4_13), (0, .ref x0), (1, .int x1), (3, .int x3), (5, .int x5), (6, .int x6), (7, .int x7)]) dX12_linen_157 (by decide) ex4_13 rfl ?_
      refine z_iload dX12_linen_159 rfl ?_
      refine z_iload dX12_linen_161 rfl ?_
      obtain ⟨v_14, M_15, c_16, hf⟩ := z_call_some hf
      refine z_cSi (t_X12_has  c_16) kw_X12_has lk_X12_326 rfl (by decide) rfl (Nat.le_of_ble_eq_true rfl) ⟨Nat.le_refl 0, Nat.le_refl 0⟩ dX12_linen_163 ?_
      refine z_if_ne (tgt := 172) dX12_linen_166 (by decide) (fun q_17 => ?_) (fun q_17 => ?_)
      · have hf := (if_neg q_17).symm.trans hf
        refine z_iload dX12_linen_172 rfl ?_
        refine z_iconst (v := 1) dX12_linen_174 (by decide) ?_
        refine z_iadd dX12_linen_175 ?_
        obtain ⟨x6_18, ex6_18, hf⟩ := zl_some hf
        refine z_istore' (lv' := [(6, .int x6_18), (4, .int x4_13), (0, .ref x0), (1, .int x1), (3, .int x3), (5, .int x5), (7, .int x7)]) dX12_linen_176 (by decide) ex6_18 rfl ?_
        refine z_aload_n dX12_linen_178 rfl rfl ?_
        refine z_iload dX12_linen_179 rfl ?_
        obtain ⟨v_19, M_20, c_21, hf⟩ := z_call_some hf
        refine z_cVi (t_X12_octet h0 c_21) kw_X12_octet lk_X12_338 h0 rfl (by decide) rfl (Nat.le_of_ble_eq_true rfl) ⟨Nat.le_refl 0, Nat.le_refl 0⟩ dX12_linen_181 ?_
        refine z_istore' (lv' := [(8, .int v_19), (6, .int x6_18), (4, .int x4_13), (0, .ref x0), (1, .int x1), (3, .int x3), (5, .int x5), (7, .int x7)]) dX12_linen_184 (by decide) rfl rfl ?_
        refine z_iload dX12_linen_186 rfl ?_
        refine z_iconst (v := 1) dX12_linen_188 (by decide) ?_
        refine z_iload dX12_linen_189 rfl ?_
        refine z_ishl dX12_linen_191 ?_
        refine z_iconst (v := (-1)) dX12_linen_192 (by decide) ?_
        refine z_ixor dX12_linen_193 ?_
        refine z_iand dX12_linen_194 ?_
        obtain ⟨x5_22, ex5_22, hf⟩ := zl_some hf
        refine z_istore' (lv' := [(5, .int x5_22), (8, .int v_19), (6, .int x6_18), (4, .int x4_13), (0, .ref x0), (1, .int x1), (3, .int x3), (7, .int x7)]) dX12_linen_195 (by decide) ex5_22 rfl ?_
        refine zA.pick [(0, .ref x0), (1, .int x1), (3, .int x3), (4, .int x4_13), (5, .int x5_22), (6, .int x6_18), (7, .int x7), (8, .int v_19)] [4, 5, 6, 3, 0, 2, 7, 1] rfl ?_
        exact t_X12_linen_197 h0 ih zF x4_13 x5_22 x6_18 x7 v_19 M_20 hf
      · have hf := (if_pos q_17).symm.trans hf
        refine z_goto (tgt := 226) dX12_linen_169 (by decide) ?_
        refine zA.pick [(0, .ref x0), (1, .int x1), (3, .int x3), (4, .int x4_13), (5, .int x5), (6, .int x6), (7, .int x7)] [1, 2, 3, 0, 4, 5, 6] rfl ?_
        exact t_X12_linen_226 h0 ih hf
noncomputable def f_X12_linen_90 (x0 : Nat) : Nat → Int32 → Int32 → Int32 → zM → Option (Int32 × zM)
  | 0, _, _, _, _ => none
  | n + 1, x4, x5, x6, M =>
    (if x5 ≤ x6 then some (x4, M) else z_call (f_X12_octet x0 x4 M) fun v_2 M_3 => zl (x6 + 1) fun x6_5 => (f_X12_linen_90 x0 n v_2 x5 x6_5 M_3))
set_option maxHeartbeats 2000000 in
set_option maxRecDepth 20000 in
theorem t_X12_linen_90 {l : Launch} {x0 : Nat} {MO : zM} {v : Int32} (h0 : z_tm SH 11 x0) : ∀ (n : Nat) (x4 : Int32) (x5 : Int32) (x6 : Int32) (M : zM), f_X12_linen_90 x0 n x4 x5 x6 M = some (v, MO) → zA l yX12_linen cX12_linen 9 (some .int) 3 0 0 SH.length (zDi SH v MO) 0 0 90 [(0, .ref x0), (4, .int x4), (5, .int x5), (6, .int x6)] [] SH M := by
  intro n
  induction n with
  | zero =>
    intro x4 x5 x6 M hf
    rw [f_X12_linen_90] at hf
    cases hf
  | succ n ih =>
    intro x4 x5 x6 M hf
    rw [f_X12_linen_90] at hf
    refine z_iload dX12_linen_90 rfl ?_
    refine z_iload dX12_linen_92 rfl ?_
    refine z_icmp_ge (tgt := 111) dX12_linen_94 (by decide) (fun q_1 => ?_) (fun q_1 => ?_)
    · have hf := (if_pos q_1).symm.trans hf
      refine z_iload dX12_linen_111 rfl ?_
      obtain ⟨rfl, rfl⟩ := z_end hf
      exact z_iret ⟨rfl, rfl, rfl⟩ (Or.inl rfl) dX12_linen_113
    · have hf := (if_neg q_1).symm.trans hf
      refine z_aload_n dX12_linen_97 rfl rfl ?_
      refine z_iload dX12_linen_98 rfl ?_
      obtain ⟨v_2, M_3, c_4, hf⟩ := z_call_some hf
      refine z_cVi (t_X12_octet h0 c_4) kw_X12_octet lk_X12_338 h0 rfl (by decide) rfl (Nat.le_of_ble_eq_true rfl) ⟨Nat.le_refl 0, Nat.le_refl 0⟩ dX12_linen_100 ?_
      refine z_istore' (lv' := [(4, .int v_2), (0, .ref x0), (5, .int x5), (6, .int x6)]) dX12_linen_103 (by decide) rfl rfl ?_
      obtain ⟨x6_5, ex6_5, hf⟩ := zl_some hf
      refine z_iinc' (lv' := [(6, .int x6_5), (4, .int v_2), (0, .ref x0), (5, .int x5)]) dX12_linen_105 rfl (by decide) ex6_5 (by decide) rfl ?_
      refine z_goto (tgt := 90) dX12_linen_108 (by decide) ?_
      refine zA.pick [(0, .ref x0), (4, .int v_2), (5, .int x5), (6, .int x6_5)] [2, 1, 3, 0] rfl ?_
      exact ih v_2 x5 x6_5 M_3 hf
noncomputable def f_X12_linen_43 (x0 : Nat) (x1 : Int32) (x2 : Int32) (x3 : Int32) (M : zM) : Option (Int32 × zM) :=
  (if x1 ≤ (M.1 x0 4) then zl (zu M.1 x0 4 0, M.2) fun M_2 => z_call (f_X12_isOnceEach x0 x1 M_2) fun v_3 M_4 => (if v_3 = 0 then some ((-2), M_4) else (if 100 ≤ x3 then zl ((((1 : Int32) <<< (x1 &&& 31)) - 1)) fun x5_8 => (f_X12_linen_130 x0 x1 x3 zF 1 x5_8 0 0 M_4) else z_call (f_X12_roundOf x0 x3 M_4) fun v_9 M_10 => if ¬ ((v_9 : Int32) = 0) then zl ((x2 - x2 / v_9 * v_9)) fun x5_13 => (f_X12_linen_90 x0 zF x3 x5_13 0 M_10) else none)) else some ((-1), M))
set_option maxHeartbeats 2000000 in
set_option maxRecDepth 20000 in
theorem t_X12_linen_43 {l : Launch} {x0 : Nat} {x1 : Int32} {x2 : Int32} {x3 : Int32} {M MO : zM} {v : Int32} (h0 : z_tm SH 11 x0) (hf : f_X12_linen_43 x0 x1 x2 x3 M = some (v, MO)) : zA l yX12_linen cX12_linen 9 (some .int) 3 0 0 SH.length (zDi SH v MO) 0 0 43 [(0, .ref x0), (1, .int x1), (2, .int x2), (3, .int x3)] [] SH M := by
  unfold f_X12_linen_43 at hf
  refine z_iload_n dX12_linen_43 rfl rfl ?_
  refine z_aload_n dX12_linen_44 rfl rfl ?_
  refine zgI fl_X12_115 h0 (fun _ => rfl) dX12_linen_45 ?_
  refine z_icmp_le (tgt := 53) dX12_linen_48 (by decide) (fun q_1 => ?_) (fun q_1 => ?_)
  · have hf := (if_pos q_1).symm.trans hf
    refine z_aload_n dX12_linen_53 rfl rfl ?_
    refine z_iconst (v := 0) dX12_linen_54 (by decide) ?_
    obtain ⟨M_2, eM_2, hf⟩ := zl_some hf
    refine zpI fl_X12_115 h0 rfl (Or.inl rfl) eM_2 dX12_linen_55 ?_
    refine z_aload_n dX12_linen_58 rfl rfl ?_
    refine z_iload_n dX12_linen_59 rfl rfl ?_
    obtain ⟨v_3, M_4, c_5, hf⟩ := z_call_some hf
    refine z_cVi (t_X12_isOnceEach h0 c_5) kw_X12_isOnceEach lk_X12_363 h0 rfl (by decide) rfl (Nat.le_of_ble_eq_true rfl) ⟨Nat.le_refl 0, Nat.le_refl 0⟩ dX12_linen_60 ?_
    refine z_if_ne (tgt := 69) dX12_linen_63 (by decide) (fun q_6 => ?_) (fun q_6 => ?_)
    · have hf := (if_neg q_6).symm.trans hf
      refine z_iload_n dX12_linen_69 rfl rfl ?_
      refine z_bipush (v := 100) dX12_linen_70 (by decide) ?_
      refine z_icmp_ge (tgt := 114) dX12_linen_72 (by decide) (fun q_7 => ?_) (fun q_7 => ?_)
      · have hf := (if_pos q_7).symm.trans hf
        refine z_iconst (v := 1) dX12_linen_114 (by decide) ?_
        refine z_istore' (lv' := [(4, .int 1), (0, .ref x0), (1, .int x1), (2, .int x2), (3, .int x3)]) dX12_linen_115 (by decide) rfl rfl ?_
        refine z_iconst (v := 1) dX12_linen_117 (by decide) ?_
        refine z_iload_n dX12_linen_118 rfl rfl ?_
        refine z_ishl dX12_linen_119 ?_
        refine z_iconst (v := 1) dX12_linen_120 (by decide) ?_
        refine z_isub dX12_linen_121 ?_
        obtain ⟨x5_8, ex5_8, hf⟩ := zl_some hf
        refine z_istore' (lv' := [(5, .int x5_8), (4, .int 1), (0, .ref x0), (1, .int x1), (2, .int x2), (3, .int x3)]) dX12_linen_122 (by decide) ex5_8 rfl ?_
        refine z_iconst (v := 0) dX12_linen_124 (by decide) ?_
        refine z_istore' (lv' := [(6, .int 0), (5, .int x5_8), (4, .int 1), (0, .ref x0), (1, .int x1), (2, .int x2), (3, .int x3)]) dX12_linen_125 (by decide) rfl rfl ?_
        refine z_iconst (v := 0) dX12_linen_127 (by decide) ?_
        refine z_istore' (lv' := [(7, .int 0), (6, .int 0), (5, .int x5_8), (4, .int 1), (0, .ref x0), (1, .int x1), (2, .int x2), (3, .int x3)]) dX12_linen_128 (by decide) rfl rfl ?_
        refine zA.pick [(0, .ref x0), (1, .int x1), (3, .int x3), (4, .int 1), (5, .int x5_8), (6, .int 0), (7, .int 0)] [4, 5, 7, 3, 2, 1, 0] rfl ?_
        exact t_X12_linen_130 h0 zF 1 x5_8 0 0 M_4 hf
      · have hf := (if_neg q_7).symm.trans hf
        refine z_iload_n dX12_linen_75 rfl rfl ?_
        refine z_istore' (lv' := [(4, .int x3), (0, .ref x0), (1, .int x1), (2, .int x2), (3, .int x3)]) dX12_linen_76 (by decide) rfl rfl ?_
        refine z_iload_n dX12_linen_78 rfl rfl ?_
        refine z_aload_n dX12_linen_79 rfl rfl ?_
        refine z_iload_n dX12_linen_80 rfl rfl ?_
        obtain ⟨v_9, M_10, c_11, hf⟩ := z_call_some hf
        refine z_cVi (t_X12_roundOf h0 c_11) kw_X12_roundOf lk_X12_366 h0 rfl (by decide) rfl (Nat.le_of_ble_eq_true rfl) ⟨Nat.le_refl 0, Nat.le_refl 0⟩ dX12_linen_81 ?_
        obtain ⟨g_12, hf⟩ := z_ifs hf
        refine z_irem dX12_linen_84 g_12 ?_
        obtain ⟨x5_13, ex5_13, hf⟩ := zl_some hf
        refine z_istore' (lv' := [(5, .int x5_13), (4, .int x3), (0, .ref x0), (1, .int x1), (2, .int x2), (3, .int x3)]) dX12_linen_85 (by decide) ex5_13 rfl ?_
        refine z_iconst (v := 0) dX12_linen_87 (by decide) ?_
        refine z_istore' (lv' := [(6, .int 0), (5, .int x5_13), (4, .int x3), (0, .ref x0), (1, .int x1), (2, .int x2), (3, .int x3)]) dX12_linen_88 (by decide) rfl rfl ?_
        refine zA.pick [(0, .ref x0), (4, .int x3), (5, .int x5_13), (6, .int 0)] [3, 2, 1, 0] rfl ?_
        exact t_X12_linen_90 h0 zF x3 x5_13 0 M_10 hf
    · have hf := (if_pos q_6).symm.trans hf
      refine z_bipush (v := (-2)) dX12_linen_66 (by decide) ?_
      obtain ⟨rfl, rfl⟩ := z_end hf
      exact z_iret ⟨rfl, rfl, rfl⟩ (Or.inl rfl) dX12_linen_68
  · have hf := (if_neg q_1).symm.trans hf
    refine z_iconst (v := (-1)) dX12_linen_51 (by decide) ?_
    obtain ⟨rfl, rfl⟩ := z_end hf
    exact z_iret ⟨rfl, rfl, rfl⟩ (Or.inl rfl) dX12_linen_52
noncomputable def f_X12_linen (x0 : Nat) (x1 : Int32) (x2 : Int32) (x3 : Int32) (M : zM) : Option (Int32 × zM) :=
  z_call (f_X12_in x1 1 24 M) fun v_1 M_2 => (if v_1 = 0 then some ((-1), M_2) else z_call (f_X12_in x2 0 1000000 M_2) fun v_5 M_6 => (if v_5 = 0 then some ((-1), M_6) else z_call (f_X12_in x3 100 101 M_6) fun v_9 M_10 => (if v_9 = 0 then z_call (f_X12_in x3 0 (x1 - 1) M_10) fun v_13 M_14 => (if v_13 = 0 then some ((-1), M_14) else (f_X12_linen_43 x0 x1 x2 x3 M_14)) else (f_X12_linen_43 x0 x1 x2 x3 M_10))))
set_option maxHeartbeats 2000000 in
set_option maxRecDepth 20000 in
theorem t_X12_linen {l : Launch} {x0 : Nat} {x1 : Int32} {x2 : Int32} {x3 : Int32} {M MO : zM} {v : Int32} (h0 : z_tm SH 11 x0) (hf : f_X12_linen x0 x1 x2 x3 M = some (v, MO)) : zMet l yX12_linen cX12_linen 9 (some .int) 3 0 0 [.ref x0, .int x1, .int x2, .int x3] SH M (zDi SH v MO) := by
  refine zMet.of (by decide +kernel) (Nat.le_of_ble_eq_true rfl) (Or.inr (Or.inl rfl)) ?_
  show zA l yX12_linen cX12_linen 9 (some .int) 3 0 0 SH.length (zDi SH v MO) 0 0 0 [(0, .ref x0), (1, .int x1), (2, .int x2), (3, .int x3)] [] SH M
  unfold f_X12_linen at hf
  refine z_iload_n dX12_linen_0 rfl rfl ?_
  refine z_iconst (v := 1) dX12_linen_1 (by decide) ?_
  refine z_bipush (v := 24) dX12_linen_2 (by decide) ?_
  obtain ⟨v_1, M_2, c_3, hf⟩ := z_call_some hf
  refine z_cSi (t_X12_in  c_3) kw_X12_in lk_X12_90 rfl (by decide) rfl (Nat.le_of_ble_eq_true rfl) ⟨Nat.le_refl 0, Nat.le_refl 0⟩ dX12_linen_4 ?_
  refine z_if_eq (tgt := 51) dX12_linen_7 (by decide) (fun q_4 => ?_) (fun q_4 => ?_)
  · have hf := (if_pos q_4).symm.trans hf
    refine z_iconst (v := (-1)) dX12_linen_51 (by decide) ?_
    obtain ⟨rfl, rfl⟩ := z_end hf
    exact z_iret ⟨rfl, rfl, rfl⟩ (Or.inl rfl) dX12_linen_52
  · have hf := (if_neg q_4).symm.trans hf
    refine z_iload_n dX12_linen_10 rfl rfl ?_
    refine z_iconst (v := 0) dX12_linen_11 (by decide) ?_
    refine z_ldcw (v := 1000000) dX12_linen_12 cn_X12_312 ?_
    obtain ⟨v_5, M_6, c_7, hf⟩ := z_call_some hf
    refine z_cSi (t_X12_in  c_7) kw_X12_in lk_X12_90 rfl (by decide) rfl (Nat.le_of_ble_eq_true rfl) ⟨Nat.le_refl 0, Nat.le_refl 0⟩ dX12_linen_15 ?_
    refine z_if_eq (tgt := 51) dX12_linen_18 (by decide) (fun q_8 => ?_) (fun q_8 => ?_)
    · have hf := (if_pos q_8).symm.trans hf
      refine z_iconst (v := (-1)) dX12_linen_51 (by decide) ?_
      obtain ⟨rfl, rfl⟩ := z_end hf
      exact z_iret ⟨rfl, rfl, rfl⟩ (Or.inl rfl) dX12_linen_52
    · have hf := (if_neg q_8).symm.trans hf
      refine z_iload_n dX12_linen_21 rfl rfl ?_
      refine z_bipush (v := 100) dX12_linen_22 (by decide) ?_
      refine z_bipush (v := 101) dX12_linen_24 (by decide) ?_
      obtain ⟨v_9, M_10, c_11, hf⟩ := z_call_some hf
      refine z_cSi (t_X12_in  c_11) kw_X12_in lk_X12_90 rfl (by decide) rfl (Nat.le_of_ble_eq_true rfl) ⟨Nat.le_refl 0, Nat.le_refl 0⟩ dX12_linen_26 ?_
      refine z_if_ne (tgt := 43) dX12_linen_29 (by decide) (fun q_12 => ?_) (fun q_12 => ?_)
      · have hf := (if_neg q_12).symm.trans hf
        exact t_X12_linen_43 h0 hf
      · have hf := (if_pos q_12).symm.trans hf
        refine z_iload_n dX12_linen_32 rfl rfl ?_
        refine z_iconst (v := 0) dX12_linen_33 (by decide) ?_
        refine z_iload_n dX12_linen_34 rfl rfl ?_
        refine z_iconst (v := 1) dX12_linen_35 (by decide) ?_
        refine z_isub dX12_linen_36 ?_
        obtain ⟨v_13, M_14, c_15, hf⟩ := z_call_some hf
        refine z_cSi (t_X12_in  c_15) kw_X12_in lk_X12_90 rfl (by decide) rfl (Nat.le_of_ble_eq_true rfl) ⟨Nat.le_refl 0, Nat.le_refl 0⟩ dX12_linen_37 ?_
        refine z_if_eq (tgt := 51) dX12_linen_40 (by decide) (fun q_16 => ?_) (fun q_16 => ?_)
        · have hf := (if_pos q_16).symm.trans hf
          refine z_iconst (v := (-1)) dX12_linen_51 (by decide) ?_
          obtain ⟨rfl, rfl⟩ := z_end hf
          exact z_iret ⟨rfl, rfl, rfl⟩ (Or.inl rfl) dX12_linen_52
        · have hf := (if_neg q_16).symm.trans hf
          exact t_X12_linen_43 h0 hf
noncomputable def f_X12_placeOf_57 (x0 : Nat) (x1 : Int32) (k4 : Int32 → Int32 → zM → Option (Int32 × zM)) (x2 : Int32) (x3 : Int32) (M : zM) : Option (Int32 × zM) :=
  zl (x3 + 1) fun x3_1 => (k4 x2 x3_1 M)
set_option maxHeartbeats 2000000 in
set_option maxRecDepth 20000 in
theorem t_X12_placeOf_57 {l : Launch} {x0 : Nat} {x1 : Int32} {k4 : Int32 → Int32 → zM → Option (Int32 × zM)} {x2 : Int32} {x3 : Int32} {M MO : zM} {v : Int32} (h0 : z_tm SH 11 x0) (hk4 : ∀ (x2 : Int32) (x3 : Int32) (M : zM), k4 x2 x3 M = some (v, MO) → zA l yX12_placeOf cX12_placeOf 4 (some .int) 3 0 0 SH.length (zDi SH v MO) 0 0 4 [(0, .ref x0), (1, .int x1), (2, .int x2), (3, .int x3)] [] SH M) (hf : f_X12_placeOf_57 x0 x1 k4 x2 x3 M = some (v, MO)) : zA l yX12_placeOf cX12_placeOf 4 (some .int) 3 0 0 SH.length (zDi SH v MO) 0 0 57 [(0, .ref x0), (1, .int x1), (2, .int x2), (3, .int x3)] [] SH M := by
  unfold f_X12_placeOf_57 at hf
  obtain ⟨x3_1, ex3_1, hf⟩ := zl_some hf
  refine z_iinc' (lv' := [(3, .int x3_1), (0, .ref x0), (1, .int x1), (2, .int x2)]) dX12_placeOf_57 rfl (by decide) ex3_1 (by decide) rfl ?_
  refine z_goto (tgt := 4) dX12_placeOf_60 (by decide) ?_
  refine zA.pick [(0, .ref x0), (1, .int x1), (2, .int x2), (3, .int x3_1)] [1, 2, 3, 0] rfl ?_
  exact hk4 x2 x3_1 M hf
noncomputable def f_X12_placeOf_53 (x0 : Nat) (x1 : Int32) (k4 : Int32 → Int32 → zM → Option (Int32 × zM)) (x2 : Int32) (x3 : Int32) (M : zM) : Option (Int32 × zM) :=
  zl ((x2 + 1)) fun x2_1 => (f_X12_placeOf_57 x0 x1 k4 x2_1 x3 M)
set_option maxHeartbeats 2000000 in
set_option maxRecDepth 20000 in
theorem t_X12_placeOf_53 {l : Launch} {x0 : Nat} {x1 : Int32} {k4 : Int32 → Int32 → zM → Option (Int32 × zM)} {x2 : Int32} {x3 : Int32} {M MO : zM} {v : Int32} (h0 : z_tm SH 11 x0) (hk4 : ∀ (x2 : Int32) (x3 : Int32) (M : zM), k4 x2 x3 M = some (v, MO) → zA l yX12_placeOf cX12_placeOf 4 (some .int) 3 0 0 SH.length (zDi SH v MO) 0 0 4 [(0, .ref x0), (1, .int x1), (2, .int x2), (3, .int x3)] [] SH M) (hf : f_X12_placeOf_53 x0 x1 k4 x2 x3 M = some (v, MO)) : zA l yX12_placeOf cX12_placeOf 4 (some .int) 3 0 0 SH.length (zDi SH v MO) 0 0 53 [(0, .ref x0), (1, .int x1), (2, .int x2), (3, .int x3)] [] SH M := by
  unfold f_X12_placeOf_53 at hf
  refine z_iload_n dX12_placeOf_53 rfl rfl ?_
  refine z_iconst (v := 1) dX12_placeOf_54 (by decide) ?_
  refine z_iadd dX12_placeOf_55 ?_
  obtain ⟨x2_1, ex2_1, hf⟩ := zl_some hf
  refine z_istore_n' (lv' := [(2, .int x2_1), (0, .ref x0), (1, .int x1), (3, .int x3)]) rfl dX12_placeOf_56 (by decide) ex2_1 rfl ?_
  refine zA.pick [(0, .ref x0), (1, .int x1), (2, .int x2_1), (3, .int x3)] [1, 2, 0, 3] rfl ?_
  exact t_X12_placeOf_57 h0 hk4 hf
noncomputable def f_X12_placeOf_4 (x0 : Nat) (x1 : Int32) : Nat → Int32 → Int32 → zM → Option (Int32 × zM)
  | 0, _, _, _ => none
  | n + 1, x2, x3, M =>
    (if 24 ≤ x3 then some (x2, M) else z_rd (M.2.1 x0 0) fun a_2 => if z_ix (0 + x3) (z_ln SH a_2) = true then (if (M.1 a_2 ((0 + x3) : Int32).toNatClampNeg) = 1 then z_call (f_X12_feltIn x0 x3 M) fun v_5 M_6 => z_call (f_X12_feltIn x0 x1 M_6) fun v_8 M_9 => (if v_5 < v_8 then (f_X12_placeOf_53 x0 x1 (f_X12_placeOf_4 x0 x1 n) x2 x3 M_9) else z_call (f_X12_feltIn x0 x3 M_9) fun v_12 M_13 => z_call (f_X12_feltIn x0 x1 M_13) fun v_15 M_16 => (if v_12 = v_15 then (if x1 ≤ x3 then (f_X12_placeOf_57 x0 x1 (f_X12_placeOf_4 x0 x1 n) x2 x3 M_16) else (f_X12_placeOf_53 x0 x1 (f_X12_placeOf_4 x0 x1 n) x2 x3 M_16)) else (f_X12_placeOf_57 x0 x1 (f_X12_placeOf_4 x0 x1 n) x2 x3 M_16))) else (f_X12_placeOf_57 x0 x1 (f_X12_placeOf_4 x0 x1 n) x2 x3 M)) else none)
set_option maxHeartbeats 2000000 in
set_option maxRecDepth 20000 in
theorem t_X12_placeOf_4 {l : Launch} {x0 : Nat} {x1 : Int32} {MO : zM} {v : Int32} (h0 : z_tm SH 11 x0) : ∀ (n : Nat) (x2 : Int32) (x3 : Int32) (M : zM), f_X12_placeOf_4 x0 x1 n x2 x3 M = some (v, MO) → zA l yX12_placeOf cX12_placeOf 4 (some .int) 3 0 0 SH.length (zDi SH v MO) 0 0 4 [(0, .ref x0), (1, .int x1), (2, .int x2), (3, .int x3)] [] SH M := by
  intro n
  induction n with
  | zero =>
    intro x2 x3 M hf
    rw [f_X12_placeOf_4] at hf
    cases hf
  | succ n ih =>
    intro x2 x3 M hf
    rw [f_X12_placeOf_4] at hf
    refine z_iload_n dX12_placeOf_4 rfl rfl ?_
    refine z_bipush (v := 24) dX12_placeOf_5 (by decide) ?_
    refine z_icmp_ge (tgt := 63) dX12_placeOf_7 (by decide) (fun q_1 => ?_) (fun q_1 => ?_)
    · have hf := (if_pos q_1).symm.trans hf
      refine z_iload_n dX12_placeOf_63 rfl rfl ?_
      obtain ⟨rfl, rfl⟩ := z_end hf
      exact z_iret ⟨rfl, rfl, rfl⟩ (Or.inl rfl) dX12_placeOf_64
    · have hf := (if_neg q_1).symm.trans hf
      refine z_aload_n dX12_placeOf_10 rfl rfl ?_
      obtain ⟨a_2, ra_2, hf⟩ := z_rd_some hf
      refine zgR fl_X12_7 h0 (fun _ => rfl) ra_2 dX12_placeOf_11 (fun ha_2 => ?_)
      refine z_iconst (v := 0) dX12_placeOf_14 (by decide) ?_
      refine z_iload_n dX12_placeOf_15 rfl rfl ?_
      refine z_iadd dX12_placeOf_16 ?_
      obtain ⟨g_3, hf⟩ := z_ifs hf
      refine z_iald ha_2 g_3 rfl dX12_placeOf_17 ?_
      refine z_iconst (v := 1) dX12_placeOf_18 (by decide) ?_
      refine z_icmp_ne (tgt := 57) dX12_placeOf_19 (by decide) (fun q_4 => ?_) (fun q_4 => ?_)
      · have hf := (if_neg q_4).symm.trans hf
        exact t_X12_placeOf_57 h0 ih hf
      · have hf := (if_pos q_4).symm.trans hf
        refine z_aload_n dX12_placeOf_22 rfl rfl ?_
        refine z_iload_n dX12_placeOf_23 rfl rfl ?_
        obtain ⟨v_5, M_6, c_7, hf⟩ := z_call_some hf
        refine z_cVi (t_X12_feltIn h0 c_7) kw_X12_feltIn lk_X12_227 h0 rfl (by decide) rfl (Nat.le_of_ble_eq_true rfl) ⟨Nat.le_refl 0, Nat.le_refl 0⟩ dX12_placeOf_24 ?_
        refine z_aload_n dX12_placeOf_27 rfl rfl ?_
        refine z_iload_n dX12_placeOf_28 rfl rfl ?_
        obtain ⟨v_8, M_9, c_10, hf⟩ := z_call_some hf
        refine z_cVi (t_X12_feltIn h0 c_10) kw_X12_feltIn lk_X12_227 h0 rfl (by decide) rfl (Nat.le_of_ble_eq_true rfl) ⟨Nat.le_refl 0, Nat.le_refl 0⟩ dX12_placeOf_29 ?_
        refine z_icmp_lt (tgt := 53) dX12_placeOf_32 (by decide) (fun q_11 => ?_) (fun q_11 => ?_)
        · have hf := (if_pos q_11).symm.trans hf
          exact t_X12_placeOf_53 h0 ih hf
        · have hf := (if_neg q_11).symm.trans hf
          refine z_aload_n dX12_placeOf_35 rfl rfl ?_
          refine z_iload_n dX12_placeOf_36 rfl rfl ?_
          obtain ⟨v_12, M_13, c_14, hf⟩ := z_call_some hf
          refine z_cVi (t_X12_feltIn h0 c_14) kw_X12_feltIn lk_X12_227 h0 rfl (by decide) rfl (Nat.le_of_ble_eq_true rfl) ⟨Nat.le_refl 0, Nat.le_refl 0⟩ dX12_placeOf_37 ?_
          refine z_aload_n dX12_placeOf_40 rfl rfl ?_
          refine z_iload_n dX12_placeOf_41 rfl rfl ?_
          obtain ⟨v_15, M_16, c_17, hf⟩ := z_call_some hf
          refine z_cVi (t_X12_feltIn h0 c_17) kw_X12_feltIn lk_X12_227 h0 rfl (by decide) rfl (Nat.le_of_ble_eq_true rfl) ⟨Nat.le_refl 0, Nat.le_refl 0⟩ dX12_placeOf_42 ?_
          refine z_icmp_ne (tgt := 57) dX12_placeOf_45 (by decide) (fun q_18 => ?_) (fun q_18 => ?_)
          · have hf := (if_neg q_18).symm.trans hf
            exact t_X12_placeOf_57 h0 ih hf
          · have hf := (if_pos q_18).symm.trans hf
            refine z_iload_n dX12_placeOf_48 rfl rfl ?_
            refine z_iload_n dX12_placeOf_49 rfl rfl ?_
            refine z_icmp_ge (tgt := 57) dX12_placeOf_50 (by decide) (fun q_19 => ?_) (fun q_19 => ?_)
            · have hf := (if_pos q_19).symm.trans hf
              exact t_X12_placeOf_57 h0 ih hf
            · have hf := (if_neg q_19).symm.trans hf
              exact t_X12_placeOf_53 h0 ih hf
noncomputable def f_X12_placeOf (x0 : Nat) (x1 : Int32) (M : zM) : Option (Int32 × zM) :=
  (f_X12_placeOf_4 x0 x1 zF 0 0 M)
set_option maxHeartbeats 2000000 in
set_option maxRecDepth 20000 in
theorem t_X12_placeOf {l : Launch} {x0 : Nat} {x1 : Int32} {M MO : zM} {v : Int32} (h0 : z_tm SH 11 x0) (hf : f_X12_placeOf x0 x1 M = some (v, MO)) : zMet l yX12_placeOf cX12_placeOf 4 (some .int) 3 0 0 [.ref x0, .int x1] SH M (zDi SH v MO) := by
  refine zMet.of (by decide +kernel) (Nat.le_of_ble_eq_true rfl) (Or.inr (Or.inl rfl)) ?_
  show zA l yX12_placeOf cX12_placeOf 4 (some .int) 3 0 0 SH.length (zDi SH v MO) 0 0 0 [(0, .ref x0), (1, .int x1)] [] SH M
  unfold f_X12_placeOf at hf
  refine z_iconst (v := 0) dX12_placeOf_0 (by decide) ?_
  refine z_istore_n' (lv' := [(2, .int 0), (0, .ref x0), (1, .int x1)]) rfl dX12_placeOf_1 (by decide) rfl rfl ?_
  refine z_iconst (v := 0) dX12_placeOf_2 (by decide) ?_
  refine z_istore_n' (lv' := [(3, .int 0), (2, .int 0), (0, .ref x0), (1, .int x1)]) rfl dX12_placeOf_3 (by decide) rfl rfl ?_
  refine zA.pick [(0, .ref x0), (1, .int x1), (2, .int 0), (3, .int 0)] [2, 3, 1, 0] rfl ?_
  exact t_X12_placeOf_4 h0 zF 0 0 M hf
noncomputable def f_X12_dust_84 (x0 : Nat) (x1 : Int32) (k26 : Int32 → Int32 → zM → Option (Int32 × zM)) (x2 : Int32) (x3 : Int32) (M : zM) : Option (Int32 × zM) :=
  zl (x3 + 1) fun x3_1 => (k26 x2 x3_1 M)
set_option maxHeartbeats 2000000 in
set_option maxRecDepth 20000 in
theorem t_X12_dust_84 {l : Launch} {x0 : Nat} {x1 : Int32} {k26 : Int32 → Int32 → zM → Option (Int32 × zM)} {x2 : Int32} {x3 : Int32} {M MO : zM} {v : Int32} (h0 : z_tm SH 11 x0) (hk26 : ∀ (x2 : Int32) (x3 : Int32) (M : zM), k26 x2 x3 M = some (v, MO) → zA l yX12_dust cX12_dust 4 (some .int) 4 0 0 SH.length (zDi SH v MO) 0 0 26 [(0, .ref x0), (1, .int x1), (2, .int x2), (3, .int x3)] [] SH M) (hf : f_X12_dust_84 x0 x1 k26 x2 x3 M = some (v, MO)) : zA l yX12_dust cX12_dust 4 (some .int) 4 0 0 SH.length (zDi SH v MO) 0 0 84 [(0, .ref x0), (1, .int x1), (2, .int x2), (3, .int x3)] [] SH M := by
  unfold f_X12_dust_84 at hf
  obtain ⟨x3_1, ex3_1, hf⟩ := zl_some hf
  refine z_iinc' (lv' := [(3, .int x3_1), (0, .ref x0), (1, .int x1), (2, .int x2)]) dX12_dust_84 rfl (by decide) ex3_1 (by decide) rfl ?_
  refine z_goto (tgt := 26) dX12_dust_87 (by decide) ?_
  refine zA.pick [(0, .ref x0), (1, .int x1), (2, .int x2), (3, .int x3_1)] [1, 2, 3, 0] rfl ?_
  exact hk26 x2 x3_1 M hf
noncomputable def f_X12_dust_60 (x0 : Nat) (x1 : Int32) (k26 : Int32 → Int32 → zM → Option (Int32 × zM)) (x2 : Int32) (x3 : Int32) (M : zM) : Option (Int32 × zM) :=
  (if x1 = 1 then z_call (f_X12_placeOf x0 x3 M) fun v_2 M_3 => (if v_2 = ((x2 - 1) / 2) then z_call (f_X12_feltIn x0 x3 M_3) fun v_6 M_7 => some (v_6, M_7) else (f_X12_dust_84 x0 x1 k26 x2 x3 M_3)) else (f_X12_dust_84 x0 x1 k26 x2 x3 M))
set_option maxHeartbeats 2000000 in
set_option maxRecDepth 20000 in
theorem t_X12_dust_60 {l : Launch} {x0 : Nat} {x1 : Int32} {k26 : Int32 → Int32 → zM → Option (Int32 × zM)} {x2 : Int32} {x3 : Int32} {M MO : zM} {v : Int32} (h0 : z_tm SH 11 x0) (hk26 : ∀ (x2 : Int32) (x3 : Int32) (M : zM), k26 x2 x3 M = some (v, MO) → zA l yX12_dust cX12_dust 4 (some .int) 4 0 0 SH.length (zDi SH v MO) 0 0 26 [(0, .ref x0), (1, .int x1), (2, .int x2), (3, .int x3)] [] SH M) (hf : f_X12_dust_60 x0 x1 k26 x2 x3 M = some (v, MO)) : zA l yX12_dust cX12_dust 4 (some .int) 4 0 0 SH.length (zDi SH v MO) 0 0 60 [(0, .ref x0), (1, .int x1), (2, .int x2), (3, .int x3)] [] SH M := by
  unfold f_X12_dust_60 at hf
  refine z_iload_n dX12_dust_60 rfl rfl ?_
  refine z_iconst (v := 1) dX12_dust_61 (by decide) ?_
  refine z_icmp_ne (tgt := 84) dX12_dust_62 (by decide) (fun q_1 => ?_) (fun q_1 => ?_)
  · have hf := (if_neg q_1).symm.trans hf
    exact t_X12_dust_84 h0 hk26 hf
  · have hf := (if_pos q_1).symm.trans hf
    refine z_aload_n dX12_dust_65 rfl rfl ?_
    refine z_iload_n dX12_dust_66 rfl rfl ?_
    obtain ⟨v_2, M_3, c_4, hf⟩ := z_call_some hf
    refine z_cVi (t_X12_placeOf h0 c_4) kw_X12_placeOf lk_X12_369 h0 rfl (by decide) rfl (Nat.le_of_ble_eq_true rfl) ⟨Nat.le_refl 0, Nat.le_refl 0⟩ dX12_dust_67 ?_
    refine z_iload_n dX12_dust_70 rfl rfl ?_
    refine z_iconst (v := 1) dX12_dust_71 (by decide) ?_
    refine z_isub dX12_dust_72 ?_
    refine z_iconst (v := 2) dX12_dust_73 (by decide) ?_
    refine z_idiv dX12_dust_74 (by decide) ?_
    refine z_icmp_ne (tgt := 84) dX12_dust_75 (by decide) (fun q_5 => ?_) (fun q_5 => ?_)
    · have hf := (if_neg q_5).symm.trans hf
      exact t_X12_dust_84 h0 hk26 hf
    · have hf := (if_pos q_5).symm.trans hf
      refine z_aload_n dX12_dust_78 rfl rfl ?_
      refine z_iload_n dX12_dust_79 rfl rfl ?_
      obtain ⟨v_6, M_7, c_8, hf⟩ := z_call_some hf
      refine z_cVi (t_X12_feltIn h0 c_8) kw_X12_feltIn lk_X12_227 h0 rfl (by decide) rfl (Nat.le_of_ble_eq_true rfl) ⟨Nat.le_refl 0, Nat.le_refl 0⟩ dX12_dust_80 ?_
      obtain ⟨rfl, rfl⟩ := z_end hf
      exact z_iret ⟨rfl, rfl, rfl⟩ (Or.inl rfl) dX12_dust_83
noncomputable def f_X12_dust_26 (x0 : Nat) (x1 : Int32) : Nat → Int32 → Int32 → zM → Option (Int32 × zM)
  | 0, _, _, _ => none
  | n + 1, x2, x3, M =>
    (if 24 ≤ x3 then some ((-2), M) else z_rd (M.2.1 x0 0) fun a_2 => if z_ix (0 + x3) (z_ln SH a_2) = true then (if (M.1 a_2 ((0 + x3) : Int32).toNatClampNeg) = 0 then (f_X12_dust_84 x0 x1 (f_X12_dust_26 x0 x1 n) x2 x3 M) else (if x1 = 0 then z_call (f_X12_placeOf x0 x3 M) fun v_6 M_7 => (if v_6 = 0 then some (x3, M_7) else (f_X12_dust_60 x0 x1 (f_X12_dust_26 x0 x1 n) x2 x3 M_7)) else (f_X12_dust_60 x0 x1 (f_X12_dust_26 x0 x1 n) x2 x3 M))) else none)
set_option maxHeartbeats 2000000 in
set_option maxRecDepth 20000 in
theorem t_X12_dust_26 {l : Launch} {x0 : Nat} {x1 : Int32} {MO : zM} {v : Int32} (h0 : z_tm SH 11 x0) : ∀ (n : Nat) (x2 : Int32) (x3 : Int32) (M : zM), f_X12_dust_26 x0 x1 n x2 x3 M = some (v, MO) → zA l yX12_dust cX12_dust 4 (some .int) 4 0 0 SH.length (zDi SH v MO) 0 0 26 [(0, .ref x0), (1, .int x1), (2, .int x2), (3, .int x3)] [] SH M := by
  intro n
  induction n with
  | zero =>
    intro x2 x3 M hf
    rw [f_X12_dust_26] at hf
    cases hf
  | succ n ih =>
    intro x2 x3 M hf
    rw [f_X12_dust_26] at hf
    refine z_iload_n dX12_dust_26 rfl rfl ?_
    refine z_bipush (v := 24) dX12_dust_27 (by decide) ?_
    refine z_icmp_ge (tgt := 90) dX12_dust_29 (by decide) (fun q_1 => ?_) (fun q_1 => ?_)
    · have hf := (if_pos q_1).symm.trans hf
      refine z_bipush (v := (-2)) dX12_dust_90 (by decide) ?_
      obtain ⟨rfl, rfl⟩ := z_end hf
      exact z_iret ⟨rfl, rfl, rfl⟩ (Or.inl rfl) dX12_dust_92
    · have hf := (if_neg q_1).symm.trans hf
      refine z_aload_n dX12_dust_32 rfl rfl ?_
      obtain ⟨a_2, ra_2, hf⟩ := z_rd_some hf
      refine zgR fl_X12_7 h0 (fun _ => rfl) ra_2 dX12_dust_33 (fun ha_2 => ?_)
      refine z_iconst (v := 0) dX12_dust_36 (by decide) ?_
      refine z_iload_n dX12_dust_37 rfl rfl ?_
      refine z_iadd dX12_dust_38 ?_
      obtain ⟨g_3, hf⟩ := z_ifs hf
      refine z_iald ha_2 g_3 rfl dX12_dust_39 ?_
      refine z_if_ne (tgt := 46) dX12_dust_40 (by decide) (fun q_4 => ?_) (fun q_4 => ?_)
      · have hf := (if_neg q_4).symm.trans hf
        refine z_iload_n dX12_dust_46 rfl rfl ?_
        refine z_if_ne (tgt := 60) dX12_dust_47 (by decide) (fun q_5 => ?_) (fun q_5 => ?_)
        · have hf := (if_neg q_5).symm.trans hf
          exact t_X12_dust_60 h0 ih hf
        · have hf := (if_pos q_5).symm.trans hf
          refine z_aload_n dX12_dust_50 rfl rfl ?_
          refine z_iload_n dX12_dust_51 rfl rfl ?_
          obtain ⟨v_6, M_7, c_8, hf⟩ := z_call_some hf
          refine z_cVi (t_X12_placeOf h0 c_8) kw_X12_placeOf lk_X12_369 h0 rfl (by decide) rfl (Nat.le_of_ble_eq_true rfl) ⟨Nat.le_refl 0, Nat.le_refl 0⟩ dX12_dust_52 ?_
          refine z_if_ne (tgt := 60) dX12_dust_55 (by decide) (fun q_9 => ?_) (fun q_9 => ?_)
          · have hf := (if_neg q_9).symm.trans hf
            exact t_X12_dust_60 h0 ih hf
          · have hf := (if_pos q_9).symm.trans hf
            refine z_iload_n dX12_dust_58 rfl rfl ?_
            obtain ⟨rfl, rfl⟩ := z_end hf
            exact z_iret ⟨rfl, rfl, rfl⟩ (Or.inl rfl) dX12_dust_59
      · have hf := (if_pos q_4).symm.trans hf
        refine z_goto (tgt := 84) dX12_dust_43 (by decide) ?_
        exact t_X12_dust_84 h0 ih hf
noncomputable def f_X12_dust (x0 : Nat) (x1 : Int32) (M : zM) : Option (Int32 × zM) :=
  z_call (f_X12_in x1 0 1 M) fun v_1 M_2 => (if v_1 = 0 then some ((-1), M_2) else z_call (f_X12_sumOf x0 0 M_2) fun v_5 M_6 => (if v_5 = 0 then some ((-2), M_6) else (f_X12_dust_26 x0 x1 zF v_5 0 M_6)))
set_option maxHeartbeats 2000000 in
set_option maxRecDepth 20000 in
theorem t_X12_dust {l : Launch} {x0 : Nat} {x1 : Int32} {M MO : zM} {v : Int32} (h0 : z_tm SH 11 x0) (hf : f_X12_dust x0 x1 M = some (v, MO)) : zMet l yX12_dust cX12_dust 4 (some .int) 4 0 0 [.ref x0, .int x1] SH M (zDi SH v MO) := by
  refine zMet.of (by decide +kernel) (Nat.le_of_ble_eq_true rfl) (Or.inr (Or.inl rfl)) ?_
  show zA l yX12_dust cX12_dust 4 (some .int) 4 0 0 SH.length (zDi SH v MO) 0 0 0 [(0, .ref x0), (1, .int x1)] [] SH M
  unfold f_X12_dust at hf
  refine z_iload_n dX12_dust_0 rfl rfl ?_
  refine z_iconst (v := 0) dX12_dust_1 (by decide) ?_
  refine z_iconst (v := 1) dX12_dust_2 (by decide) ?_
  obtain ⟨v_1, M_2, c_3, hf⟩ := z_call_some hf
  refine z_cSi (t_X12_in  c_3) kw_X12_in lk_X12_90 rfl (by decide) rfl (Nat.le_of_ble_eq_true rfl) ⟨Nat.le_refl 0, Nat.le_refl 0⟩ dX12_dust_3 ?_
  refine z_if_ne (tgt := 11) dX12_dust_6 (by decide) (fun q_4 => ?_) (fun q_4 => ?_)
  · have hf := (if_neg q_4).symm.trans hf
    refine z_aload_n dX12_dust_11 rfl rfl ?_
    refine z_iconst (v := 0) dX12_dust_12 (by decide) ?_
    obtain ⟨v_5, M_6, c_7, hf⟩ := z_call_some hf
    refine z_cVi (t_X12_sumOf h0 c_7) kw_X12_sumOf lk_X12_291 h0 rfl (by decide) rfl (Nat.le_of_ble_eq_true rfl) ⟨Nat.le_refl 0, Nat.le_refl 0⟩ dX12_dust_13 ?_
    refine z_istore_n' (lv' := [(2, .int v_5), (0, .ref x0), (1, .int x1)]) rfl dX12_dust_16 (by decide) rfl rfl ?_
    refine z_iload_n dX12_dust_17 rfl rfl ?_
    refine z_if_ne (tgt := 24) dX12_dust_18 (by decide) (fun q_8 => ?_) (fun q_8 => ?_)
    · have hf := (if_neg q_8).symm.trans hf
      refine z_iconst (v := 0) dX12_dust_24 (by decide) ?_
      refine z_istore_n' (lv' := [(3, .int 0), (2, .int v_5), (0, .ref x0), (1, .int x1)]) rfl dX12_dust_25 (by decide) rfl rfl ?_
      refine zA.pick [(0, .ref x0), (1, .int x1), (2, .int v_5), (3, .int 0)] [2, 3, 1, 0] rfl ?_
      exact t_X12_dust_26 h0 zF v_5 0 M_6 hf
    · have hf := (if_pos q_8).symm.trans hf
      refine z_bipush (v := (-2)) dX12_dust_21 (by decide) ?_
      obtain ⟨rfl, rfl⟩ := z_end hf
      exact z_iret ⟨rfl, rfl, rfl⟩ (Or.inl rfl) dX12_dust_23
  · have hf := (if_pos q_4).symm.trans hf
    refine z_iconst (v := (-1)) dX12_dust_9 (by decide) ?_
    obtain ⟨rfl, rfl⟩ := z_end hf
    exact z_iret ⟨rfl, rfl, rfl⟩ (Or.inl rfl) dX12_dust_10
noncomputable def f_X12_seed (x0 : Nat) (x1 : Int32) (M : zM) : Option (Int32 × zM) :=
  z_call (f_X12_in x1 0 65535 M) fun v_1 M_2 => (if v_1 = 0 then some (0, M_2) else z_rd (M_2.2.1 x0 0) fun a_5 => if z_ix 698 (z_ln SH a_5) = true then zl (zu M_2.1 a_5 (698 : Int32).toNatClampNeg x1, M_2.2) fun M_7 => some (1, M_7) else none)
set_option maxHeartbeats 2000000 in
set_option maxRecDepth 20000 in
theorem t_X12_seed {l : Launch} {x0 : Nat} {x1 : Int32} {M MO : zM} {v : Int32} (h0 : z_tm SH 11 x0) (hf : f_X12_seed x0 x1 M = some (v, MO)) : zMet l yX12_seed cX12_seed 2 (some .boolean) 2 0 0 [.ref x0, .int x1] SH M (zDi SH v MO) := by
  refine zMet.of (by decide +kernel) (Nat.le_of_ble_eq_true rfl) (Or.inr (Or.inr (Or.inl rfl))) ?_
  show zA l yX12_seed cX12_seed 2 (some .boolean) 2 0 0 SH.length (zDi SH v MO) 0 0 0 [(0, .ref x0), (1, .int x1)] [] SH M
  unfold f_X12_seed at hf
  refine z_iload_n dX12_seed_0 rfl rfl ?_
  refine z_iconst (v := 0) dX12_seed_1 (by decide) ?_
  refine z_ldcw (v := 65535) dX12_seed_2 cn_X12_372 ?_
  obtain ⟨v_1, M_2, c_3, hf⟩ := z_call_some hf
  refine z_cSi (t_X12_in  c_3) kw_X12_in lk_X12_90 rfl (by decide) rfl (Nat.le_of_ble_eq_true rfl) ⟨Nat.le_refl 0, Nat.le_refl 0⟩ dX12_seed_5 ?_
  refine z_if_ne (tgt := 13) dX12_seed_8 (by decide) (fun q_4 => ?_) (fun q_4 => ?_)
  · have hf := (if_neg q_4).symm.trans hf
    refine z_aload_n dX12_seed_13 rfl rfl ?_
    obtain ⟨a_5, ra_5, hf⟩ := z_rd_some hf
    refine zgR fl_X12_7 h0 (fun _ => rfl) ra_5 dX12_seed_14 (fun ha_5 => ?_)
    refine z_sipush (v := 698) dX12_seed_17 (by decide) ?_
    refine z_iload_n dX12_seed_20 rfl rfl ?_
    obtain ⟨g_6, hf⟩ := z_ifs hf
    obtain ⟨M_7, eM_7, hf⟩ := zl_some hf
    refine z_iast ha_5 g_6 eM_7 dX12_seed_21 ?_
    refine z_iconst (v := 1) dX12_seed_22 (by decide) ?_
    obtain ⟨rfl, rfl⟩ := z_end hf
    exact z_iret ⟨rfl, rfl, rfl⟩ (Or.inr ⟨rfl, (Or.inr rfl)⟩) dX12_seed_23
  · have hf := (if_pos q_4).symm.trans hf
    refine z_iconst (v := 0) dX12_seed_11 (by decide) ?_
    obtain ⟨rfl, rfl⟩ := z_end hf
    exact z_iret ⟨rfl, rfl, rfl⟩ (Or.inr ⟨rfl, (Or.inl rfl)⟩) dX12_seed_12
noncomputable def f_X12_keep (x0 : Nat) (M : zM) : Option (Int32 × zM) :=
  zl (zu M.1 x0 41 1, M.2) fun M_1 => z_rd (M_1.2.1 x0 0) fun a_2 => z_rd (M_1.2.1 x0 2) fun a_3 => z_call (f_X12_copies a_2 a_3 M_1) fun v_4 M_5 => z_rd (M_5.2.1 x0 0) fun a_7 => if z_ix 697 (z_ln SH a_7) = true then some ((M_5.1 a_7 (697 : Int32).toNatClampNeg), M_5) else none
set_option maxHeartbeats 2000000 in
set_option maxRecDepth 20000 in
theorem t_X12_keep {l : Launch} {x0 : Nat} {M MO : zM} {v : Int32} (h0 : z_tm SH 11 x0) (hf : f_X12_keep x0 M = some (v, MO)) : zMet l yX12_keep cX12_keep 1 (some .int) 2 0 0 [.ref x0] SH M (zDi SH v MO) := by
  refine zMet.of (by decide +kernel) (Nat.le_of_ble_eq_true rfl) (Or.inr (Or.inl rfl)) ?_
  show zA l yX12_keep cX12_keep 1 (some .int) 2 0 0 SH.length (zDi SH v MO) 0 0 0 [(0, .ref x0)] [] SH M
  unfold f_X12_keep at hf
  refine z_aload_n dX12_keep_0 rfl rfl ?_
  refine z_iconst (v := 1) dX12_keep_1 (by decide) ?_
  obtain ⟨M_1, eM_1, hf⟩ := zl_some hf
  refine zpI fl_X12_373 h0 rfl (Or.inr ⟨rfl, (Or.inr rfl)⟩) eM_1 dX12_keep_2 ?_
  refine z_aload_n dX12_keep_5 rfl rfl ?_
  obtain ⟨a_2, ra_2, hf⟩ := z_rd_some hf
  refine zgR fl_X12_7 h0 (fun _ => rfl) ra_2 dX12_keep_6 (fun ha_2 => ?_)
  refine z_aload_n dX12_keep_9 rfl rfl ?_
  obtain ⟨a_3, ra_3, hf⟩ := z_rd_some hf
  refine zgR fl_X12_16 h0 (fun _ => rfl) ra_3 dX12_keep_10 (fun ha_3 => ?_)
  obtain ⟨v_4, M_5, c_6, hf⟩ := z_call_some hf
  refine z_cSv (t_X12_copies ha_2 ha_3 c_6) kw_X12_copies lk_X12_248 rfl (by decide) rfl (Nat.le_of_ble_eq_true rfl) ⟨Nat.le_refl 0, Nat.le_refl 0⟩ dX12_keep_13 ?_
  refine z_aload_n dX12_keep_16 rfl rfl ?_
  obtain ⟨a_7, ra_7, hf⟩ := z_rd_some hf
  refine zgR fl_X12_7 h0 (fun _ => rfl) ra_7 dX12_keep_17 (fun ha_7 => ?_)
  refine z_sipush (v := 697) dX12_keep_20 (by decide) ?_
  obtain ⟨g_8, hf⟩ := z_ifs hf
  refine z_iald ha_7 g_8 rfl dX12_keep_23 ?_
  obtain ⟨rfl, rfl⟩ := z_end hf
  exact z_iret ⟨rfl, rfl, rfl⟩ (Or.inl rfl) dX12_keep_24
noncomputable def f_X12_undo (x0 : Nat) (M : zM) : Option (Int32 × zM) :=
  (if (M.1 x0 41) = 0 then some (0, M) else z_rd (M.2.1 x0 2) fun a_2 => z_rd (M.2.1 x0 0) fun a_3 => z_call (f_X12_copies a_2 a_3 M) fun v_4 M_5 => some (1, M_5))
set_option maxHeartbeats 2000000 in
set_option maxRecDepth 20000 in
theorem t_X12_undo {l : Launch} {x0 : Nat} {M MO : zM} {v : Int32} (h0 : z_tm SH 11 x0) (hf : f_X12_undo x0 M = some (v, MO)) : zMet l yX12_undo cX12_undo 1 (some .boolean) 2 0 0 [.ref x0] SH M (zDi SH v MO) := by
  refine zMet.of (by decide +kernel) (Nat.le_of_ble_eq_true rfl) (Or.inr (Or.inr (Or.inl rfl))) ?_
  show zA l yX12_undo cX12_undo 1 (some .boolean) 2 0 0 SH.length (zDi SH v MO) 0 0 0 [(0, .ref x0)] [] SH M
  unfold f_X12_undo at hf
  refine z_aload_n dX12_undo_0 rfl rfl ?_
  refine zgI fl_X12_373 h0 (fun _ => rfl) dX12_undo_1 ?_
  refine z_if_ne (tgt := 9) dX12_undo_4 (by decide) (fun q_1 => ?_) (fun q_1 => ?_)
  · have hf := (if_neg q_1).symm.trans hf
    refine z_aload_n dX12_undo_9 rfl rfl ?_
    obtain ⟨a_2, ra_2, hf⟩ := z_rd_some hf
    refine zgR fl_X12_16 h0 (fun _ => rfl) ra_2 dX12_undo_10 (fun ha_2 => ?_)
    refine z_aload_n dX12_undo_13 rfl rfl ?_
    obtain ⟨a_3, ra_3, hf⟩ := z_rd_some hf
    refine zgR fl_X12_7 h0 (fun _ => rfl) ra_3 dX12_undo_14 (fun ha_3 => ?_)
    obtain ⟨v_4, M_5, c_6, hf⟩ := z_call_some hf
    refine z_cSv (t_X12_copies ha_2 ha_3 c_6) kw_X12_copies lk_X12_248 rfl (by decide) rfl (Nat.le_of_ble_eq_true rfl) ⟨Nat.le_refl 0, Nat.le_refl 0⟩ dX12_undo_17 ?_
    refine z_iconst (v := 1) dX12_undo_20 (by decide) ?_
    obtain ⟨rfl, rfl⟩ := z_end hf
    exact z_iret ⟨rfl, rfl, rfl⟩ (Or.inr ⟨rfl, (Or.inr rfl)⟩) dX12_undo_21
  · have hf := (if_pos q_1).symm.trans hf
    refine z_iconst (v := 0) dX12_undo_7 (by decide) ?_
    obtain ⟨rfl, rfl⟩ := z_end hf
    exact z_iret ⟨rfl, rfl, rfl⟩ (Or.inr ⟨rfl, (Or.inl rfl)⟩) dX12_undo_8
noncomputable def f_X12_check_67 (x0 : Nat) (x1 : Int32) (k28 : Int32 → zM → Option (Int32 × zM)) (x2 : Int32) (s0 : Int32) (s1 : Int32) (M : zM) : Option (Int32 × zM) :=
  (if s0 = s1 then zl (x2 + 1) fun x2_2 => (k28 x2_2 M) else some (x2, M))
set_option maxHeartbeats 2000000 in
set_option maxRecDepth 20000 in
theorem t_X12_check_67 {l : Launch} {x0 : Nat} {x1 : Int32} {k28 : Int32 → zM → Option (Int32 × zM)} {x2 : Int32} {s0 : Int32} {s1 : Int32} {M MO : zM} {v : Int32} (h0 : z_tm SH 11 x0) (hk28 : ∀ (x2 : Int32) (M : zM), k28 x2 M = some (v, MO) → zA l yX12_check cX12_check 3 (some .int) 2 0 0 SH.length (zDi SH v MO) 0 0 28 [(0, .ref x0), (1, .int x1), (2, .int x2)] [] SH M) (hf : f_X12_check_67 x0 x1 k28 x2 s0 s1 M = some (v, MO)) : zA l yX12_check cX12_check 3 (some .int) 2 0 0 SH.length (zDi SH v MO) 0 0 67 [(0, .ref x0), (1, .int x1), (2, .int x2)] [.int s1, .int s0] SH M := by
  unfold f_X12_check_67 at hf
  refine z_icmp_eq (tgt := 72) dX12_check_67 (by decide) (fun q_1 => ?_) (fun q_1 => ?_)
  · have hf := (if_pos q_1).symm.trans hf
    obtain ⟨x2_2, ex2_2, hf⟩ := zl_some hf
    refine z_iinc' (lv' := [(2, .int x2_2), (0, .ref x0), (1, .int x1)]) dX12_check_72 rfl (by decide) ex2_2 (by decide) rfl ?_
    refine z_goto (tgt := 28) dX12_check_75 (by decide) ?_
    refine zA.pick [(0, .ref x0), (1, .int x1), (2, .int x2_2)] [1, 2, 0] rfl ?_
    exact hk28 x2_2 M hf
  · have hf := (if_neg q_1).symm.trans hf
    refine z_iload_n dX12_check_70 rfl rfl ?_
    obtain ⟨rfl, rfl⟩ := z_end hf
    exact z_iret ⟨rfl, rfl, rfl⟩ (Or.inl rfl) dX12_check_71
noncomputable def f_X12_check_28 (x0 : Nat) (x1 : Int32) : Nat → Int32 → zM → Option (Int32 × zM)
  | 0, _, _ => none
  | n + 1, x2, M =>
    (if x1 ≤ x2 then some ((-1), M) else z_call (f_X12_octet x0 x2 M) fun v_2 M_3 => z_rd (M_3.2.1 x0 0) fun a_5 => if z_ix (0 + x2) (z_ln SH a_5) = true then (if (M_3.1 a_5 ((0 + x2) : Int32).toNatClampNeg) = 1 then z_rd (M_3.2.1 x0 0) fun a_8 => if z_ix (24 + x2) (z_ln SH a_8) = true then (f_X12_check_67 x0 x1 (f_X12_check_28 x0 x1 n) x2 v_2 ((M_3.1 a_8 ((24 + x2) : Int32).toNatClampNeg) - (M_3.1 a_8 ((24 + x2) : Int32).toNatClampNeg) / 256 * 256) M_3) else none else (f_X12_check_67 x0 x1 (f_X12_check_28 x0 x1 n) x2 v_2 0 M_3)) else none)
set_option maxHeartbeats 2000000 in
set_option maxRecDepth 20000 in
theorem t_X12_check_28 {l : Launch} {x0 : Nat} {x1 : Int32} {MO : zM} {v : Int32} (h0 : z_tm SH 11 x0) : ∀ (n : Nat) (x2 : Int32) (M : zM), f_X12_check_28 x0 x1 n x2 M = some (v, MO) → zA l yX12_check cX12_check 3 (some .int) 2 0 0 SH.length (zDi SH v MO) 0 0 28 [(0, .ref x0), (1, .int x1), (2, .int x2)] [] SH M := by
  intro n
  induction n with
  | zero =>
    intro x2 M hf
    rw [f_X12_check_28] at hf
    cases hf
  | succ n ih =>
    intro x2 M hf
    rw [f_X12_check_28] at hf
    refine z_iload_n dX12_check_28 rfl rfl ?_
    refine z_iload_n dX12_check_29 rfl rfl ?_
    refine z_icmp_ge (tgt := 78) dX12_check_30 (by decide) (fun q_1 => ?_) (fun q_1 => ?_)
    · have hf := (if_pos q_1).symm.trans hf
      refine z_iconst (v := (-1)) dX12_check_78 (by decide) ?_
      obtain ⟨rfl, rfl⟩ := z_end hf
      exact z_iret ⟨rfl, rfl, rfl⟩ (Or.inl rfl) dX12_check_79
    · have hf := (if_neg q_1).symm.trans hf
      refine z_aload_n dX12_check_33 rfl rfl ?_
      refine z_iload_n dX12_check_34 rfl rfl ?_
      obtain ⟨v_2, M_3, c_4, hf⟩ := z_call_some hf
      refine z_cVi (t_X12_octet h0 c_4) kw_X12_octet lk_X12_338 h0 rfl (by decide) rfl (Nat.le_of_ble_eq_true rfl) ⟨Nat.le_refl 0, Nat.le_refl 0⟩ dX12_check_35 ?_
      refine z_aload_n dX12_check_38 rfl rfl ?_
      obtain ⟨a_5, ra_5, hf⟩ := z_rd_some hf
      refine zgR fl_X12_7 h0 (fun _ => rfl) ra_5 dX12_check_39 (fun ha_5 => ?_)
      refine z_iconst (v := 0) dX12_check_42 (by decide) ?_
      refine z_iload_n dX12_check_43 rfl rfl ?_
      refine z_iadd dX12_check_44 ?_
      obtain ⟨g_6, hf⟩ := z_ifs hf
      refine z_iald ha_5 g_6 rfl dX12_check_45 ?_
      refine z_iconst (v := 1) dX12_check_46 (by decide) ?_
      refine z_icmp_ne (tgt := 66) dX12_check_47 (by decide) (fun q_7 => ?_) (fun q_7 => ?_)
      · have hf := (if_neg q_7).symm.trans hf
        refine z_iconst (v := 0) dX12_check_66 (by decide) ?_
        exact t_X12_check_67 h0 ih hf
      · have hf := (if_pos q_7).symm.trans hf
        refine z_aload_n dX12_check_50 rfl rfl ?_
        obtain ⟨a_8, ra_8, hf⟩ := z_rd_some hf
        refine zgR fl_X12_7 h0 (fun _ => rfl) ra_8 dX12_check_51 (fun ha_8 => ?_)
        refine z_bipush (v := 24) dX12_check_54 (by decide) ?_
        refine z_iload_n dX12_check_56 rfl rfl ?_
        refine z_iadd dX12_check_57 ?_
        obtain ⟨g_9, hf⟩ := z_ifs hf
        refine z_iald ha_8 g_9 rfl dX12_check_58 ?_
        refine z_sipush (v := 256) dX12_check_59 (by decide) ?_
        refine z_irem dX12_check_62 (by decide) ?_
        refine z_goto (tgt := 67) dX12_check_63 (by decide) ?_
        exact t_X12_check_67 h0 ih hf
noncomputable def f_X12_check (x0 : Nat) (x1 : Int32) (M : zM) : Option (Int32 × zM) :=
  z_call (f_X12_in x1 0 24 M) fun v_1 M_2 => (if v_1 = 0 then some ((-2), M_2) else (if x1 ≤ (M_2.1 x0 4) then zl (zu M_2.1 x0 4 0, M_2.2) fun M_6 => (f_X12_check_28 x0 x1 zF 0 M_6) else some ((-2), M_2)))
set_option maxHeartbeats 2000000 in
set_option maxRecDepth 20000 in
theorem t_X12_check {l : Launch} {x0 : Nat} {x1 : Int32} {M MO : zM} {v : Int32} (h0 : z_tm SH 11 x0) (hf : f_X12_check x0 x1 M = some (v, MO)) : zMet l yX12_check cX12_check 3 (some .int) 2 0 0 [.ref x0, .int x1] SH M (zDi SH v MO) := by
  refine zMet.of (by decide +kernel) (Nat.le_of_ble_eq_true rfl) (Or.inr (Or.inl rfl)) ?_
  show zA l yX12_check cX12_check 3 (some .int) 2 0 0 SH.length (zDi SH v MO) 0 0 0 [(0, .ref x0), (1, .int x1)] [] SH M
  unfold f_X12_check at hf
  refine z_iload_n dX12_check_0 rfl rfl ?_
  refine z_iconst (v := 0) dX12_check_1 (by decide) ?_
  refine z_bipush (v := 24) dX12_check_2 (by decide) ?_
  obtain ⟨v_1, M_2, c_3, hf⟩ := z_call_some hf
  refine z_cSi (t_X12_in  c_3) kw_X12_in lk_X12_90 rfl (by decide) rfl (Nat.le_of_ble_eq_true rfl) ⟨Nat.le_refl 0, Nat.le_refl 0⟩ dX12_check_4 ?_
  refine z_if_eq (tgt := 18) dX12_check_7 (by decide) (fun q_4 => ?_) (fun q_4 => ?_)
  · have hf := (if_pos q_4).symm.trans hf
    refine z_bipush (v := (-2)) dX12_check_18 (by decide) ?_
    obtain ⟨rfl, rfl⟩ := z_end hf
    exact z_iret ⟨rfl, rfl, rfl⟩ (Or.inl rfl) dX12_check_20
  · have hf := (if_neg q_4).symm.trans hf
    refine z_iload_n dX12_check_10 rfl rfl ?_
    refine z_aload_n dX12_check_11 rfl rfl ?_
    refine zgI fl_X12_115 h0 (fun _ => rfl) dX12_check_12 ?_
    refine z_icmp_le (tgt := 21) dX12_check_15 (by decide) (fun q_5 => ?_) (fun q_5 => ?_)
    · have hf := (if_pos q_5).symm.trans hf
      refine z_aload_n dX12_check_21 rfl rfl ?_
      refine z_iconst (v := 0) dX12_check_22 (by decide) ?_
      obtain ⟨M_6, eM_6, hf⟩ := zl_some hf
      refine zpI fl_X12_115 h0 rfl (Or.inl rfl) eM_6 dX12_check_23 ?_
      refine z_iconst (v := 0) dX12_check_26 (by decide) ?_
      refine z_istore_n' (lv' := [(2, .int 0), (0, .ref x0), (1, .int x1)]) rfl dX12_check_27 (by decide) rfl rfl ?_
      refine zA.pick [(0, .ref x0), (1, .int x1), (2, .int 0)] [1, 2, 0] rfl ?_
      exact t_X12_check_28 h0 zF 0 M_6 hf
    · have hf := (if_neg q_5).symm.trans hf
      refine z_bipush (v := (-2)) dX12_check_18 (by decide) ?_
      obtain ⟨rfl, rfl⟩ := z_end hf
      exact z_iret ⟨rfl, rfl, rfl⟩ (Or.inl rfl) dX12_check_20
noncomputable def f_X12_setOf_4 (x0 : Nat) (x1 : Int32) : Nat → Int32 → Int32 → zM → Option (Int32 × zM)
  | 0, _, _, _ => none
  | n + 1, x2, x3, M =>
    (if 24 ≤ x3 then some (x2, M) else z_rd (M.2.1 x0 0) fun a_2 => if z_ix (x1 + x3) (z_ln SH a_2) = true then zl ((x2 ||| (((M.1 a_2 ((x1 + x3) : Int32).toNatClampNeg) : Int32) <<< (x3 &&& 31)))) fun x2_4 => zl (x3 + 1) fun x3_5 => (f_X12_setOf_4 x0 x1 n x2_4 x3_5 M) else none)
set_option maxHeartbeats 2000000 in
set_option maxRecDepth 20000 in
theorem t_X12_setOf_4 {l : Launch} {x0 : Nat} {x1 : Int32} {MO : zM} {v : Int32} (h0 : z_tm SH 11 x0) : ∀ (n : Nat) (x2 : Int32) (x3 : Int32) (M : zM), f_X12_setOf_4 x0 x1 n x2 x3 M = some (v, MO) → zA l yX12_setOf cX12_setOf 4 (some .int) 1 0 0 SH.length (zDi SH v MO) 0 0 4 [(0, .ref x0), (1, .int x1), (2, .int x2), (3, .int x3)] [] SH M := by
  intro n
  induction n with
  | zero =>
    intro x2 x3 M hf
    rw [f_X12_setOf_4] at hf
    cases hf
  | succ n ih =>
    intro x2 x3 M hf
    rw [f_X12_setOf_4] at hf
    refine z_iload_n dX12_setOf_4 rfl rfl ?_
    refine z_bipush (v := 24) dX12_setOf_5 (by decide) ?_
    refine z_icmp_ge (tgt := 29) dX12_setOf_7 (by decide) (fun q_1 => ?_) (fun q_1 => ?_)
    · have hf := (if_pos q_1).symm.trans hf
      refine z_iload_n dX12_setOf_29 rfl rfl ?_
      obtain ⟨rfl, rfl⟩ := z_end hf
      exact z_iret ⟨rfl, rfl, rfl⟩ (Or.inl rfl) dX12_setOf_30
    · have hf := (if_neg q_1).symm.trans hf
      refine z_iload_n dX12_setOf_10 rfl rfl ?_
      refine z_aload_n dX12_setOf_11 rfl rfl ?_
      obtain ⟨a_2, ra_2, hf⟩ := z_rd_some hf
      refine zgR fl_X12_7 h0 (fun _ => rfl) ra_2 dX12_setOf_12 (fun ha_2 => ?_)
      refine z_iload_n dX12_setOf_15 rfl rfl ?_
      refine z_iload_n dX12_setOf_16 rfl rfl ?_
      refine z_iadd dX12_setOf_17 ?_
      obtain ⟨g_3, hf⟩ := z_ifs hf
      refine z_iald ha_2 g_3 rfl dX12_setOf_18 ?_
      refine z_iload_n dX12_setOf_19 rfl rfl ?_
      refine z_ishl dX12_setOf_20 ?_
      refine z_ior dX12_setOf_21 ?_
      obtain ⟨x2_4, ex2_4, hf⟩ := zl_some hf
      refine z_istore_n' (lv' := [(2, .int x2_4), (0, .ref x0), (1, .int x1), (3, .int x3)]) rfl dX12_setOf_22 (by decide) ex2_4 rfl ?_
      obtain ⟨x3_5, ex3_5, hf⟩ := zl_some hf
      refine z_iinc' (lv' := [(3, .int x3_5), (2, .int x2_4), (0, .ref x0), (1, .int x1)]) dX12_setOf_23 rfl (by decide) ex3_5 (by decide) rfl ?_
      refine z_goto (tgt := 4) dX12_setOf_26 (by decide) ?_
      refine zA.pick [(0, .ref x0), (1, .int x1), (2, .int x2_4), (3, .int x3_5)] [2, 3, 1, 0] rfl ?_
      exact ih x2_4 x3_5 M hf
noncomputable def f_X12_setOf (x0 : Nat) (x1 : Int32) (M : zM) : Option (Int32 × zM) :=
  (f_X12_setOf_4 x0 x1 zF 0 0 M)
set_option maxHeartbeats 2000000 in
set_option maxRecDepth 20000 in
theorem t_X12_setOf {l : Launch} {x0 : Nat} {x1 : Int32} {M MO : zM} {v : Int32} (h0 : z_tm SH 11 x0) (hf : f_X12_setOf x0 x1 M = some (v, MO)) : zMet l yX12_setOf cX12_setOf 4 (some .int) 1 0 0 [.ref x0, .int x1] SH M (zDi SH v MO) := by
  refine zMet.of (by decide +kernel) (Nat.le_of_ble_eq_true rfl) (Or.inr (Or.inl rfl)) ?_
  show zA l yX12_setOf cX12_setOf 4 (some .int) 1 0 0 SH.length (zDi SH v MO) 0 0 0 [(0, .ref x0), (1, .int x1)] [] SH M
  unfold f_X12_setOf at hf
  refine z_iconst (v := 0) dX12_setOf_0 (by decide) ?_
  refine z_istore_n' (lv' := [(2, .int 0), (0, .ref x0), (1, .int x1)]) rfl dX12_setOf_1 (by decide) rfl rfl ?_
  refine z_iconst (v := 0) dX12_setOf_2 (by decide) ?_
  refine z_istore_n' (lv' := [(3, .int 0), (2, .int 0), (0, .ref x0), (1, .int x1)]) rfl dX12_setOf_3 (by decide) rfl rfl ?_
  refine zA.pick [(0, .ref x0), (1, .int x1), (2, .int 0), (3, .int 0)] [2, 3, 1, 0] rfl ?_
  exact t_X12_setOf_4 h0 zF 0 0 M hf
noncomputable def f_X12_count (x0 : Nat) (x1 : Int32) (M : zM) : Option (Int32 × zM) :=
  (if x1 = 0 then z_rd (M.2.1 x0 0) fun a_2 => if z_ix 697 (z_ln SH a_2) = true then some ((M.1 a_2 (697 : Int32).toNatClampNeg), M) else none else if x1 = 1 then z_rd (M.2.1 x0 0) fun a_5 => if z_ix 696 (z_ln SH a_5) = true then some ((M.1 a_5 (696 : Int32).toNatClampNeg), M) else none else if x1 = 2 then z_call (f_X12_setOf x0 0 M) fun v_8 M_9 => some (v_8, M_9) else if x1 = 3 then z_call (f_X12_setOf x0 48 M) fun v_12 M_13 => some (v_12, M_13) else if x1 = 4 then some ((M.1 x0 13), M) else if x1 = 5 then some ((M.1 x0 4), M) else if x1 = 6 then z_rd (M.2.1 x0 0) fun a_18 => if z_ix 698 (z_ln SH a_18) = true then some ((M.1 a_18 (698 : Int32).toNatClampNeg), M) else none else if x1 = 7 then z_call (f_X12_sumOf x0 24 M) fun v_21 M_22 => some (v_21, M_22) else if x1 = 8 then z_call (f_X12_sumOf x0 96 M) fun v_25 M_26 => some (v_25, M_26) else some ((-1), M))
set_option maxHeartbeats 2000000 in
set_option maxRecDepth 20000 in
theorem t_X12_count {l : Launch} {x0 : Nat} {x1 : Int32} {M MO : zM} {v : Int32} (h0 : z_tm SH 11 x0) (hf : f_X12_count x0 x1 M = some (v, MO)) : zMet l yX12_count cX12_count 2 (some .int) 2 0 0 [.ref x0, .int x1] SH M (zDi SH v MO) := by
  refine zMet.of (by decide +kernel) (Nat.le_of_ble_eq_true rfl) (Or.inr (Or.inl rfl)) ?_
  show zA l yX12_count cX12_count 2 (some .int) 2 0 0 SH.length (zDi SH v MO) 0 0 0 [(0, .ref x0), (1, .int x1)] [] SH M
  unfold f_X12_count at hf
  refine z_iload_n dX12_count_0 rfl rfl ?_
  by_cases q_1 : x1 = 0
  · have hf := (if_pos q_1).symm.trans hf
    refine z_tabIn (tgt := 52) (off := 51) dX12_count_1 (by rw [q_1]; decide) (by rw [q_1]; decide) (by rw [q_1]; rfl) (by decide) ?_
    refine z_aload_n dX12_count_52 rfl rfl ?_
    obtain ⟨a_2, ra_2, hf⟩ := z_rd_some hf
    refine zgR fl_X12_7 h0 (fun _ => rfl) ra_2 dX12_count_53 (fun ha_2 => ?_)
    refine z_sipush (v := 697) dX12_count_56 (by decide) ?_
    obtain ⟨g_3, hf⟩ := z_ifs hf
    refine z_iald ha_2 g_3 rfl dX12_count_59 ?_
    obtain ⟨rfl, rfl⟩ := z_end hf
    exact z_iret ⟨rfl, rfl, rfl⟩ (Or.inl rfl) dX12_count_60
  have hf := (if_neg q_1).symm.trans hf
  by_cases q_4 : x1 = 1
  · have hf := (if_pos q_4).symm.trans hf
    refine z_tabIn (tgt := 61) (off := 60) dX12_count_1 (by rw [q_4]; decide) (by rw [q_4]; decide) (by rw [q_4]; rfl) (by decide) ?_
    refine z_aload_n dX12_count_61 rfl rfl ?_
    obtain ⟨a_5, ra_5, hf⟩ := z_rd_some hf
    refine zgR fl_X12_7 h0 (fun _ => rfl) ra_5 dX12_count_62 (fun ha_5 => ?_)
    refine z_sipush (v := 696) dX12_count_65 (by decide) ?_
    obtain ⟨g_6, hf⟩ := z_ifs hf
    refine z_iald ha_5 g_6 rfl dX12_count_68 ?_
    obtain ⟨rfl, rfl⟩ := z_end hf
    exact z_iret ⟨rfl, rfl, rfl⟩ (Or.inl rfl) dX12_count_69
  have hf := (if_neg q_4).symm.trans hf
  by_cases q_7 : x1 = 2
  · have hf := (if_pos q_7).symm.trans hf
    refine z_tabIn (tgt := 70) (off := 69) dX12_count_1 (by rw [q_7]; decide) (by rw [q_7]; decide) (by rw [q_7]; rfl) (by decide) ?_
    refine z_aload_n dX12_count_70 rfl rfl ?_
    refine z_iconst (v := 0) dX12_count_71 (by decide) ?_
    obtain ⟨v_8, M_9, c_10, hf⟩ := z_call_some hf
    refine z_cVi (t_X12_setOf h0 c_10) kw_X12_setOf lk_X12_377 h0 rfl (by decide) rfl (Nat.le_of_ble_eq_true rfl) ⟨Nat.le_refl 0, Nat.le_refl 0⟩ dX12_count_72 ?_
    obtain ⟨rfl, rfl⟩ := z_end hf
    exact z_iret ⟨rfl, rfl, rfl⟩ (Or.inl rfl) dX12_count_75
  have hf := (if_neg q_7).symm.trans hf
  by_cases q_11 : x1 = 3
  · have hf := (if_pos q_11).symm.trans hf
    refine z_tabIn (tgt := 76) (off := 75) dX12_count_1 (by rw [q_11]; decide) (by rw [q_11]; decide) (by rw [q_11]; rfl) (by decide) ?_
    refine z_aload_n dX12_count_76 rfl rfl ?_
    refine z_bipush (v := 48) dX12_count_77 (by decide) ?_
    obtain ⟨v_12, M_13, c_14, hf⟩ := z_call_some hf
    refine z_cVi (t_X12_setOf h0 c_14) kw_X12_setOf lk_X12_377 h0 rfl (by decide) rfl (Nat.le_of_ble_eq_true rfl) ⟨Nat.le_refl 0, Nat.le_refl 0⟩ dX12_count_79 ?_
    obtain ⟨rfl, rfl⟩ := z_end hf
    exact z_iret ⟨rfl, rfl, rfl⟩ (Or.inl rfl) dX12_count_82
  have hf := (if_neg q_11).symm.trans hf
  by_cases q_15 : x1 = 4
  · have hf := (if_pos q_15).symm.trans hf
    refine z_tabIn (tgt := 83) (off := 82) dX12_count_1 (by rw [q_15]; decide) (by rw [q_15]; decide) (by rw [q_15]; rfl) (by decide) ?_
    refine z_aload_n dX12_count_83 rfl rfl ?_
    refine zgI fl_X12_217 h0 (fun _ => rfl) dX12_count_84 ?_
    obtain ⟨rfl, rfl⟩ := z_end hf
    exact z_iret ⟨rfl, rfl, rfl⟩ (Or.inl rfl) dX12_count_87
  have hf := (if_neg q_15).symm.trans hf
  by_cases q_16 : x1 = 5
  · have hf := (if_pos q_16).symm.trans hf
    refine z_tabIn (tgt := 88) (off := 87) dX12_count_1 (by rw [q_16]; decide) (by rw [q_16]; decide) (by rw [q_16]; rfl) (by decide) ?_
    refine z_aload_n dX12_count_88 rfl rfl ?_
    refine zgI fl_X12_115 h0 (fun _ => rfl) dX12_count_89 ?_
    obtain ⟨rfl, rfl⟩ := z_end hf
    exact z_iret ⟨rfl, rfl, rfl⟩ (Or.inl rfl) dX12_count_92
  have hf := (if_neg q_16).symm.trans hf
  by_cases q_17 : x1 = 6
  · have hf := (if_pos q_17).symm.trans hf
    refine z_tabIn (tgt := 93) (off := 92) dX12_count_1 (by rw [q_17]; decide) (by rw [q_17]; decide) (by rw [q_17]; rfl) (by decide) ?_
    refine z_aload_n dX12_count_93 rfl rfl ?_
    obtain ⟨a_18, ra_18, hf⟩ := z_rd_some hf
    refine zgR fl_X12_7 h0 (fun _ => rfl) ra_18 dX12_count_94 (fun ha_18 => ?_)
    refine z_sipush (v := 698) dX12_count_97 (by decide) ?_
    obtain ⟨g_19, hf⟩ := z_ifs hf
    refine z_iald ha_18 g_19 rfl dX12_count_100 ?_
    obtain ⟨rfl, rfl⟩ := z_end hf
    exact z_iret ⟨rfl, rfl, rfl⟩ (Or.inl rfl) dX12_count_101
  have hf := (if_neg q_17).symm.trans hf
  by_cases q_20 : x1 = 7
  · have hf := (if_pos q_20).symm.trans hf
    refine z_tabIn (tgt := 102) (off := 101) dX12_count_1 (by rw [q_20]; decide) (by rw [q_20]; decide) (by rw [q_20]; rfl) (by decide) ?_
    refine z_aload_n dX12_count_102 rfl rfl ?_
    refine z_bipush (v := 24) dX12_count_103 (by decide) ?_
    obtain ⟨v_21, M_22, c_23, hf⟩ := z_call_some hf
    refine z_cVi (t_X12_sumOf h0 c_23) kw_X12_sumOf lk_X12_291 h0 rfl (by decide) rfl (Nat.le_of_ble_eq_true rfl) ⟨Nat.le_refl 0, Nat.le_refl 0⟩ dX12_count_105 ?_
    obtain ⟨rfl, rfl⟩ := z_end hf
    exact z_iret ⟨rfl, rfl, rfl⟩ (Or.inl rfl) dX12_count_108
  have hf := (if_neg q_20).symm.trans hf
  by_cases q_24 : x1 = 8
  · have hf := (if_pos q_24).symm.trans hf
    refine z_tabIn (tgt := 109) (off := 108) dX12_count_1 (by rw [q_24]; decide) (by rw [q_24]; decide) (by rw [q_24]; rfl) (by decide) ?_
    refine z_aload_n dX12_count_109 rfl rfl ?_
    refine z_bipush (v := 96) dX12_count_110 (by decide) ?_
    obtain ⟨v_25, M_26, c_27, hf⟩ := z_call_some hf
    refine z_cVi (t_X12_sumOf h0 c_27) kw_X12_sumOf lk_X12_291 h0 rfl (by decide) rfl (Nat.le_of_ble_eq_true rfl) ⟨Nat.le_refl 0, Nat.le_refl 0⟩ dX12_count_112 ?_
    obtain ⟨rfl, rfl⟩ := z_end hf
    exact z_iret ⟨rfl, rfl, rfl⟩ (Or.inl rfl) dX12_count_115
  have hf := (if_neg q_24).symm.trans hf
  refine z_tabD (tgt := 116) dX12_count_1 [0, 1, 2, 3, 4, 5, 6, 7, 8] (List.forall_mem_cons.mpr ⟨lv_neT q_1 (by decide), (List.forall_mem_cons.mpr ⟨lv_neT q_4 (by decide), (List.forall_mem_cons.mpr ⟨lv_neT q_7 (by decide), (List.forall_mem_cons.mpr ⟨lv_neT q_11 (by decide), (List.forall_mem_cons.mpr ⟨lv_neT q_15 (by decide), (List.forall_mem_cons.mpr ⟨lv_neT q_16 (by decide), (List.forall_mem_cons.mpr ⟨lv_neT q_17 (by decide), (List.forall_mem_cons.mpr ⟨lv_neT q_20 (by decide), (List.forall_mem_cons.mpr ⟨lv_neT q_24 (by decide), (fun _ h => absurd h List.not_mem_nil)⟩)⟩)⟩)⟩)⟩)⟩)⟩)⟩)⟩) (by decide) (by decide) ?_
  refine z_iconst (v := (-1)) dX12_count_116 (by decide) ?_
  obtain ⟨rfl, rfl⟩ := z_end hf
  exact z_iret ⟨rfl, rfl, rfl⟩ (Or.inl rfl) dX12_count_117
