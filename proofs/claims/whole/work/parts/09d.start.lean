def zM0 : zM := (fun _ _ => 0, fun _ _ => none, fun _ _ => 0)
/-- both objects made: the memory that the loop starts from -/
def InitOK (Inv : zM → Prop) : Prop := ∃ M1 M2, fc_X11_init_1 (z_al zM0 0) = some ((), M1) ∧ fc_X12_init_55 (z_al M1 54) = some ((), M2) ∧ Inv M2
set_option maxHeartbeats 8000000 in
set_option maxRecDepth 100000 in
theorem whole_open {p : Program} {e : Env} {s : State} {m : MethodId} {below : List Frame} {meth : Method} {c : Code} (l : Launch) {b L : Nat} {xs : Nat → Int32} {Inv : zM → Prop} (hok : LawOK Inv) (hini : InitOK Inv) (hL : L ≤ 3072) (C0 : lw_At p s m meth c b L xs) : W p l e room_1 s m #[Value.ref b] below meth c s.heap [] 0 0 (lw_Z below #[Value.ref b] s) (entryFrame m ([Value.ref b] : List Value).toArray 4) := by
  obtain ⟨hx, hb, hr, hml, hown, hts0, hX, hbl, hlocks, hgv⟩ := id C0
  have hts : ∀ w ∈ z_tbl, w.before #[Value.ref b] s = true := fun w hw => hts0 w (List.mem_filter.mp hw).1
  obtain ⟨c0, iS0, hKn0⟩ := u_known (C := RX0) (T := TX0) (N := 5) (n := 5) hts z_in0 (hts _ in_0)
  obtain ⟨c1, iS1, hKn1⟩ := u_known (C := RX1) (T := TX1) (N := 6) (n := 6) hts z_in1 (hts _ in_1)
  obtain ⟨c2, iS2, hKn2⟩ := u_known (C := RX2) (T := TX2) (N := 2) (n := 2) hts z_in2 (hts _ in_2)
  obtain ⟨c3, iS3, hKn3⟩ := u_known (C := RX3) (T := TX3) (N := 2) (n := 2) hts z_in3 (hts _ in_3)
  obtain ⟨c4, iS4, hKn4⟩ := u_known (C := RX4) (T := TX4) (N := 16) (n := 16) hts z_in4 (hts _ in_4)
  obtain ⟨c5, iS5, hKn5⟩ := u_known (C := RX5) (T := TX5) (N := 2) (n := 2) hts z_in5 (hts _ in_5)
  obtain ⟨c6, iS6, hKn6⟩ := u_known (C := RX6) (T := TX6) (N := 2) (n := 2) hts z_in6 (hts _ in_6)
  obtain ⟨c7, iS7, hKn7⟩ := u_known (C := RX7) (T := TX7) (N := 3) (n := 3) hts z_in7 (hts _ in_7)
  obtain ⟨c8, iS8, hKn8⟩ := u_known (C := RX8) (T := TX8) (N := 10) (n := 10) hts z_in8 (hts _ in_8)
  obtain ⟨c9, iS9, hKn9⟩ := u_known (C := RX10) (T := TX10) (N := 5) (n := 5) hts z_in9 (hts _ in_9)
  obtain ⟨c10, iS10, hKn10⟩ := u_known (C := RX11) (T := TX11) (N := 14) (n := 14) hts z_in10 (hts _ in_10)
  obtain ⟨c11, iS11, hKn11⟩ := u_known (C := RX12) (T := TX12) (N := 42) (n := 42) hts z_in11 (hts _ in_11)
  obtain ⟨cA0, kA0, cm0, a01, a02, a03⟩ := Cond.arrayClass_spec (hts _ ac_0)
  obtain ⟨cA1, kA1, cm1, a11, a12, a13⟩ := Cond.arrayClass_spec (hts _ ac_1)
  obtain ⟨cA2, kA2, cm2, a21, a22, a23⟩ := Cond.arrayClass_spec (hts _ ac_2)
  obtain ⟨cA, e0, e1, e2⟩ : ∃ cA : Nat → ClassId, cA 0 = cA0 ∧ cA 1 = cA1 ∧ cA 2 = cA2 := ⟨fun k => if k = 0 then cA0 else if k = 1 then cA1 else cA2, rfl, rfl, rfl⟩
  obtain ⟨dC, dI, hKc⟩ : ∃ (dC : Nat → ClassId) (dI : Nat → Nat → Nat), ∀ (k : Nat) (q : vw_C), vwCl[k]? = some q → u_Kn s q.1 q.2.1 q.2.2 (dC k) (dI k) := by
    refine ⟨fun k => match k with | 0 => c0 | 1 => c1 | 2 => c2 | 3 => c3 | 4 => c4 | 5 => c5 | 6 => c6 | 7 => c7 | 8 => c8 | 9 => c9 | 10 => c10 | _ => c11, fun k => match k with | 0 => iS0 | 1 => iS1 | 2 => iS2 | 3 => iS3 | 4 => iS4 | 5 => iS5 | 6 => iS6 | 7 => iS7 | 8 => iS8 | 9 => iS9 | 10 => iS10 | _ => iS11, ?_⟩
    intro k q hq
    match k, hq with
    | 0, hq => cases hq; exact hKn0
    | 1, hq => cases hq; exact hKn1
    | 2, hq => cases hq; exact hKn2
    | 3, hq => cases hq; exact hKn3
    | 4, hq => cases hq; exact hKn4
    | 5, hq => cases hq; exact hKn5
    | 6, hq => cases hq; exact hKn6
    | 7, hq => cases hq; exact hKn7
    | 8, hq => cases hq; exact hKn8
    | 9, hq => cases hq; exact hKn9
    | 10, hq => cases hq; exact hKn10
    | 11, hq => cases hq; exact hKn11
    | k + 12, hq => simp [vwCl] at hq
  have hK : va_K (dC, dI) vwCl (z_tys cA) s := by
    refine ⟨hKc, fun k q h => ?_⟩
    match k, h with
    | 0, h => cases h; exact ⟨fun n z => ⟨fun k h => (by cases h), kA0, by rw [e0]; exact a02, cm0, a03⟩, by show s.vm.findClass _ = some (cA 0); rw [e0]; exact a01⟩
    | 1, h => cases h; exact ⟨fun n z => ⟨fun k h => (by cases h), kA1, by rw [e1]; exact a12, cm1, a13⟩, by show s.vm.findClass _ = some (cA 1); rw [e1]; exact a11⟩
    | 2, h => cases h; exact ⟨fun n z => ⟨fun k h => (by cases h), kA2, by rw [e2]; exact a22, cm2, a23⟩, by show s.vm.findClass _ = some (cA 2); rw [e2]; exact a21⟩
    | k + 3, h => simp [z_tys] at h
  have C : wC p room_1 s m #[Value.ref b] c code 4 RL dC dI cA (fun q : Nat => s.heap.size ≤ q) := ⟨hx, hb, hml, hown, hts, hK, fun _ h => h, Nat.le_of_ble_eq_true rfl, Nat.le_of_ble_eq_true rfl⟩
  have hS : va_S (fun q : Nat => s.heap.size ≤ q) s.heap s.heap [] := va_S.rf
  have hwf0 : z_wf [] zM0 := fun i ci k a h => by simp at h
  have hP : va_P (dC, dI) vwCl (z_W (fun _ => 0) cA [] zM0) s.heap := fun k q h => by simp [z_W] at h
  have hD : va_D (fun q : Nat => s.heap.size ≤ q) (z_W (fun _ => 0) cA [] zM0) := ⟨fun i j p q h => by simp [z_W] at h, fun k q h => by simp [z_W] at h⟩
  have hl := lv_entry ([.ref b]) (n := 4) (Nat.le_of_ble_eq_true rfl)
  rw [lg_entry_eq]
  generalize (lg_sl ([.ref b]) ++ List.replicate (4 - (lg_sl ([.ref b])).length) Slot.unset).toArray = ls at hl ⊢
  have hl : lv_has ls 4 [(0, .ref b)] := hl
  obtain ⟨M1, M2, c1, c2, hI⟩ := hini
  refine w_new (ci := 10) (n := 0) (sh1 := SH.take 1) C (by decide) cl_L_7 in_10 ii_10 rfl rfl rfl hwf0 hP hD hS ⟨Nat.le_of_ble_eq_true rfl, Nat.le_of_ble_eq_true rfl⟩ dL_law_0 (fun ρ1 H1 hwf1 _ hP1 hD1 hS1 => ?_)
  refine lv_dup hx hb dL_law_3 rfl ?_
  refine w_cI (av := []) (rest := [.ref (ρ1 0)]) (ci := 10) C (tc_X11_init_1 c1) kw_X11_init rfl lk_L_9 (z_cn (fun a ha => by cases ha; exact Nat.le_of_ble_eq_true rfl) (fun _ h => absurd h List.not_mem_nil)) rfl (by decide) hwf1 hP1 hD1 hS1 hl.1 rfl (Nat.le_of_ble_eq_true rfl) ⟨Nat.le_of_ble_eq_true rfl, Nat.le_of_ble_eq_true rfl⟩ dL_law_4 (fun ρ2 H2 locs2 hwf2 hρ2 hP2 hD2 hS2 => ?_)
  refine lv_astore_n (lv' := [(1, .ref (ρ1 0)), (0, .ref b)]) hx hb dL_law_7 rfl hl (by decide) rfl (fun ls hl => ?_)
  refine w_new (ci := 11) (n := 54) (sh1 := SH.take 55) C (by decide) cl_L_10 in_11 ii_11 rfl rfl rfl hwf2 hP2 hD2 hS2 ⟨Nat.le_of_ble_eq_true rfl, Nat.le_of_ble_eq_true rfl⟩ dL_law_8 (fun ρ3 H3 hwf3 hρ3 hP3 hD3 hS3 => ?_)
  refine lv_dup hx hb dL_law_11 rfl ?_
  refine w_cI (av := []) (rest := [.ref (ρ3 54)]) (ci := 11) C (tc_X12_init_55 c2) kw_X12_init rfl lk_L_12 (z_cn (fun a ha => by cases ha; exact Nat.le_of_ble_eq_true rfl) (fun _ h => absurd h List.not_mem_nil)) rfl (by decide) hwf3 hP3 hD3 hS3 hl.1 rfl (Nat.le_of_ble_eq_true rfl) ⟨Nat.le_of_ble_eq_true rfl, Nat.le_of_ble_eq_true rfl⟩ dL_law_12 (fun ρ4 H4 locs4 hwf4 hρ4 hP4 hD4 hS4 => ?_)
  refine lv_astore_n (lv' := [(2, .ref (ρ3 54)), (1, .ref (ρ1 0)), (0, .ref b)]) hx hb dL_law_15 rfl hl (by decide) rfl (fun ls hl => ?_)
  refine lv_iconst (v := 0) hx hb dL_law_16 (by decide) ?_
  refine lv_istore_n (lv' := [(3, .int 0), (2, .ref (ρ3 54)), (1, .ref (ρ1 0)), (0, .ref b)]) hx hb dL_law_17 rfl hl (by decide) rfl (fun ls hl => ?_)
  have e54 : ρ4 54 = ρ3 54 := hρ4 54 (Nat.le_of_ble_eq_true rfl)
  have e00 : ρ4 0 = ρ1 0 := ((hρ4 0 (Nat.le_of_ble_eq_true rfl)).trans (hρ3 0 (Nat.le_of_ble_eq_true rfl))).trans (hρ2 0 (Nat.le_of_ble_eq_true rfl))
  refine W.widen (k := 600000) (n := 7302250) (Nat.le_of_ble_eq_true rfl) (Nat.le_of_ble_eq_true rfl) ?_
  have hl4 : lv_has ls 4 [(0, .ref b), (1, .ref (ρ4 0)), (2, .ref (ρ4 54)), (3, .int (nI 0))] := by rw [e54, e00]; exact lv_sub hl [3, 2, 1, 0] rfl
  exact law_loop hL C0 C hok (L + 7) 0 M2 H4 locs4 ls (by omega) (by omega) hI hwf4 hP4 hD4 hS4 hl4
