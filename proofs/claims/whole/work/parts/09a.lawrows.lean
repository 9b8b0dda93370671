theorem z_W_cg {ρ ρ' : Nat → Nat} {cA : Nat → ClassId} {sh : List zC} {M : zM} (hw : z_wf sh M) (h : ∀ i, i < sh.length → ρ' i = ρ i) : z_W ρ' cA sh M = z_W ρ cA sh M := by
  apply List.ext_getElem?
  intro i
  by_cases hl : i < sh.length
  · have hc : sh[i]? = some sh[i] := List.getElem?_eq_getElem hl
    rw [z_W_at hc, z_W_at hc, h i hl]
    congr 2
    unfold z_e
    split
    next ci he =>
      congr 2
      apply List.map_congr_left
      intro k hk
      have hk : k < z_N ci := List.mem_range.mp hk
      have hr : (M.2.1 i k).map ρ' = (M.2.1 i k).map ρ := by
        cases hm : M.2.1 i k with
        | none => rfl
        | some a => exact congrArg some (h a (hw i ci k a (by rw [hc, he]) hk hm).lt)
      unfold z_f
      rw [hr]
    · rfl
    · rfl
  · rw [List.getElem?_eq_none (by rw [z_W_len]; exact Nat.not_lt.mp hl), List.getElem?_eq_none (by rw [z_W_len]; exact Nat.not_lt.mp hl)]
section WL
variable {p : Program} {l : Launch} {e : Env} {Rm : Room} {s : State} {m : MethodId} {args : Array Value} {below : List Frame} {meth : Method} {c : Code} {H : Heap} {locs : List Loc} {cells slots : Nat} {Q : State → Prop} {cc : ByteArray} {nL : Nat} {own : String} {dC : Nat → ClassId} {dI : Nat → Nat → Nat} {cA : Nat → ClassId} {A : Nat → Prop} {ρ : Nat → Nat} {sh sh1 : List zC} {M M1 : zM} {pc : Nat} {ls : Array Slot} {rest : List Value}
/-- what the law's walk keeps -/
def wC (p : Program) (Rm : Room) (s : State) (m : MethodId) (args : Array Value) (c : Code) (cc : ByteArray) (nL : Nat) (own : String) (dC : Nat → ClassId) (dI : Nat → Nat → Nat) (cA : Nat → ClassId) (A : Nat → Prop) : Prop :=
  p.tables.exec = Jvm.exec ∧ c.code = cc ∧ c.maxLocals = nL ∧ s.vm.findClass own = some m.cls ∧ (∀ w ∈ z_tbl, w.before args s = true) ∧ va_K (dC, dI) vwCl (z_tys cA) s ∧ (∀ q, s.heap.size ≤ q → A q) ∧ 100 ≤ Rm.frames ∧ 6400 ≤ Rm.locals
theorem w_cVi {y2 : MethodName} {cc2 : ByteArray} {nL2 : Nat} {ret2 : Option FieldType} {d2 mc2 ms2 n index o ci : Nat} {av st0 : List Value} {v : Int32} (C : wC p Rm s m args c cc nL own dC dI cA A) (hM : zMet l y2 cc2 nL2 ret2 d2 mc2 ms2 (.ref o :: av) sh M (zDi sh1 v M1)) (hw : zKV y2 cc2 nL2 ret2 n ci) (ho : z_tm sh ci o) (hk : zLk own index y2) (hav : ∀ w ∈ (.ref o :: av), z_rk sh.length w) (hn : av.length = n) (hdp : d2 + 1 ≤ 100) (hwf : z_wf sh M) (hP : va_P (dC, dI) vwCl (z_W ρ cA sh M) H) (hD : va_D A (z_W ρ cA sh M)) (hS : va_S A s.heap H locs) (hsz : ls.size = nL) (hst : st0 = (av.map (z_v ρ)).reverse ++ .ref (ρ o) :: rest) (hrs : (rest.map fun v => v.category).sum ≤ 8) (hcs : cells + mc2 ≤ Rm.cells ∧ slots + ms2 ≤ Rm.slots) (hd : decode cc pc = .ok (.invokevirtual index, 3))
    (k : ∀ (ρ' : Nat → Nat) (H1 : Heap) (locs1 : List Loc), z_wf sh1 M1 → (∀ i, i < sh.length → ρ' i = ρ i) → va_P (dC, dI) vwCl (z_W ρ' cA sh1 M1) H1 → va_D A (z_W ρ' cA sh1 M1) → va_S A s.heap H1 locs1 → W p l e Rm s m args below meth c H1 locs1 (cells + mc2) (slots + ms2) Q (F0 m (pc + 3) ls (.int v :: rest))) :
    W p l e Rm s m args below meth c H locs cells slots Q (F0 m pc ls st0) := by
  subst hst
  obtain ⟨hx, hb, hml, hown, hts, hK, hA, hR1, hR2⟩ := C
  obtain ⟨w1, w2, w3, w4, w5⟩ := hw.1
  have hMet := hM dC dI cA ρ H.size hwf hav
  have hpay : ∀ w ∈ (Cond.code y2 cc2 nL2 ret2 :: z_tbl), ∀ (a' : Array Value) (U : State), s.WarmedH U.vm → w.before a' U = true := fun w hw => z_pay hts w ((List.mem_cons.mp hw).elim (fun e => e ▸ w1) id)
  have hsig : ∀ sig, parseMethodDescriptor y2.desc = some sig → n = sig.parameters.length := fun sig h => by
    rw [h] at w4
    exact (Option.some.inj w4).symm
  have hfr : (z_rm d2 mc2 ms2).frames + 1 ≤ Rm.frames := by show d2 + 1 ≤ Rm.frames; omega
  have hlo : 8 + (nL2 + 11) + (z_rm d2 mc2 ms2).locals ≤ Rm.locals := by show 8 + (nL2 + 11) + 64 * d2 ≤ Rm.locals; omega
  have hrun : va_Run p l e Rm s m args below meth c H locs cells slots mc2 ms2 (F0 m pc ls ((av.map (z_v ρ)).reverse ++ .ref (ρ o) :: rest)) rest (z_Q (zDi sh1 v M1) dC dI cA ρ sh.length (va_A (z_W ρ cA sh M) H.size) (Value.ref (ρ o) :: av.map (z_v ρ)).toArray) (va_A (z_W ρ cA sh M) H.size) := by
    rcases hk with hk | ⟨host, hk⟩
    · exact va_runV (As := av.map (z_v ρ)) (rest := rest) (b := ρ o) (C := y2.cls) ⟨hx, hb, hml, hown, hts⟩ hMet ⟨⟨rfl, rfl, hfr, hlo, hpay, List.mem_cons_self, hts _ w1, hts _ w2, w3, hsig, hts _ hk⟩, hts _ hw.2.1, hts _ hw.2.2.1⟩ ⟨z_blind, by rw [← hw.2.2.2.1]; exact va_recv hK hP (ci := ci) (q0 := o) (z_cl hw.2.2.2.2) (z_W_at (z_ob_of ho hw.2.2.2.2)), fun U hU hW => ⟨rfl, by rw [hU], by rw [hU]; exact hP, va_K.moved hW.alike hK, hD.weaken (fun _ _ _ _ => trivial)⟩⟩ rfl (by simpa using hn) hsz rfl (lv_room hrs) hd hcs
    · exact va_runVN (As := av.map (z_v ρ)) (rest := rest) (b := ρ o) (C := y2.cls) ⟨hx, hb, hml, hown, hts⟩ hMet ⟨⟨⟨rfl, rfl, hfr, hlo, hpay, List.mem_cons_self⟩, hts _ w1, hts _ w2, w3, hsig, hts _ hk⟩, hts _ hw.2.1, hts _ hw.2.2.1⟩ ⟨z_blind, by rw [← hw.2.2.2.1]; exact va_recv hK hP (ci := ci) (q0 := o) (z_cl hw.2.2.2.2) (z_W_at (z_ob_of ho hw.2.2.2.2)), fun U hU hW => ⟨rfl, by rw [hU], by rw [hU]; exact hP, va_K.moved hW.alike hK, hD.weaken (fun _ _ _ _ => trivial)⟩⟩ rfl (by simpa using hn) hsz rfl (lv_room hrs) hd hcs
  refine z_aft hrun hD hS hA (fun ρ' r sh' M' H1 locs1 hp hwf' hrk hn' hρ' hP1 hD1 hS1 => ?_)
  obtain ⟨rfl, rfl, rfl⟩ := hp
  exact k ρ' H1 locs1 hwf' hρ' hP1 hD1 hS1
theorem w_cVl {y2 : MethodName} {cc2 : ByteArray} {nL2 : Nat} {ret2 : Option FieldType} {d2 mc2 ms2 n index o ci : Nat} {av st0 : List Value} {v : Int64} (C : wC p Rm s m args c cc nL own dC dI cA A) (hM : zMet l y2 cc2 nL2 ret2 d2 mc2 ms2 (.ref o :: av) sh M (zDl sh1 v M1)) (hw : zKV y2 cc2 nL2 ret2 n ci) (ho : z_tm sh ci o) (hk : zLk own index y2) (hav : ∀ w ∈ (.ref o :: av), z_rk sh.length w) (hn : av.length = n) (hdp : d2 + 1 ≤ 100) (hwf : z_wf sh M) (hP : va_P (dC, dI) vwCl (z_W ρ cA sh M) H) (hD : va_D A (z_W ρ cA sh M)) (hS : va_S A s.heap H locs) (hsz : ls.size = nL) (hst : st0 = (av.map (z_v ρ)).reverse ++ .ref (ρ o) :: rest) (hrs : (rest.map fun v => v.category).sum ≤ 8) (hcs : cells + mc2 ≤ Rm.cells ∧ slots + ms2 ≤ Rm.slots) (hd : decode cc pc = .ok (.invokevirtual index, 3))
    (k : ∀ (ρ' : Nat → Nat) (H1 : Heap) (locs1 : List Loc), z_wf sh1 M1 → (∀ i, i < sh.length → ρ' i = ρ i) → va_P (dC, dI) vwCl (z_W ρ' cA sh1 M1) H1 → va_D A (z_W ρ' cA sh1 M1) → va_S A s.heap H1 locs1 → W p l e Rm s m args below meth c H1 locs1 (cells + mc2) (slots + ms2) Q (F0 m (pc + 3) ls (.long v :: rest))) :
    W p l e Rm s m args below meth c H locs cells slots Q (F0 m pc ls st0) := by
  subst hst
  obtain ⟨hx, hb, hml, hown, hts, hK, hA, hR1, hR2⟩ := C
  obtain ⟨w1, w2, w3, w4, w5⟩ := hw.1
  have hMet := hM dC dI cA ρ H.size hwf hav
  have hpay : ∀ w ∈ (Cond.code y2 cc2 nL2 ret2 :: z_tbl), ∀ (a' : Array Value) (U : State), s.WarmedH U.vm → w.before a' U = true := fun w hw => z_pay hts w ((List.mem_cons.mp hw).elim (fun e => e ▸ w1) id)
  have hsig : ∀ sig, parseMethodDescriptor y2.desc = some sig → n = sig.parameters.length := fun sig h => by
    rw [h] at w4
    exact (Option.some.inj w4).symm
  have hfr : (z_rm d2 mc2 ms2).frames + 1 ≤ Rm.frames := by show d2 + 1 ≤ Rm.frames; omega
  have hlo : 8 + (nL2 + 11) + (z_rm d2 mc2 ms2).locals ≤ Rm.locals := by show 8 + (nL2 + 11) + 64 * d2 ≤ Rm.locals; omega
  have hrun : va_Run p l e Rm s m args below meth c H locs cells slots mc2 ms2 (F0 m pc ls ((av.map (z_v ρ)).reverse ++ .ref (ρ o) :: rest)) rest (z_Q (zDl sh1 v M1) dC dI cA ρ sh.length (va_A (z_W ρ cA sh M) H.size) (Value.ref (ρ o) :: av.map (z_v ρ)).toArray) (va_A (z_W ρ cA sh M) H.size) := by
    rcases hk with hk | ⟨host, hk⟩
    · exact va_runV (As := av.map (z_v ρ)) (rest := rest) (b := ρ o) (C := y2.cls) ⟨hx, hb, hml, hown, hts⟩ hMet ⟨⟨rfl, rfl, hfr, hlo, hpay, List.mem_cons_self, hts _ w1, hts _ w2, w3, hsig, hts _ hk⟩, hts _ hw.2.1, hts _ hw.2.2.1⟩ ⟨z_blind, by rw [← hw.2.2.2.1]; exact va_recv hK hP (ci := ci) (q0 := o) (z_cl hw.2.2.2.2) (z_W_at (z_ob_of ho hw.2.2.2.2)), fun U hU hW => ⟨rfl, by rw [hU], by rw [hU]; exact hP, va_K.moved hW.alike hK, hD.weaken (fun _ _ _ _ => trivial)⟩⟩ rfl (by simpa using hn) hsz rfl (lv_room hrs) hd hcs
    · exact va_runVN (As := av.map (z_v ρ)) (rest := rest) (b := ρ o) (C := y2.cls) ⟨hx, hb, hml, hown, hts⟩ hMet ⟨⟨⟨rfl, rfl, hfr, hlo, hpay, List.mem_cons_self⟩, hts _ w1, hts _ w2, w3, hsig, hts _ hk⟩, hts _ hw.2.1, hts _ hw.2.2.1⟩ ⟨z_blind, by rw [← hw.2.2.2.1]; exact va_recv hK hP (ci := ci) (q0 := o) (z_cl hw.2.2.2.2) (z_W_at (z_ob_of ho hw.2.2.2.2)), fun U hU hW => ⟨rfl, by rw [hU], by rw [hU]; exact hP, va_K.moved hW.alike hK, hD.weaken (fun _ _ _ _ => trivial)⟩⟩ rfl (by simpa using hn) hsz rfl (lv_room hrs) hd hcs
  refine z_aft hrun hD hS hA (fun ρ' r sh' M' H1 locs1 hp hwf' hrk hn' hρ' hP1 hD1 hS1 => ?_)
  obtain ⟨rfl, rfl, rfl⟩ := hp
  exact k ρ' H1 locs1 hwf' hρ' hP1 hD1 hS1
theorem w_cI {y2 : MethodName} {cc2 : ByteArray} {nL2 : Nat} {d2 mc2 ms2 n index o ci : Nat} {av st0 : List Value} (C : wC p Rm s m args c cc nL own dC dI cA A) (hM : zMet l y2 cc2 nL2 none d2 mc2 ms2 (.ref o :: av) sh M (zDv sh1 M1)) (hw : zWd y2 cc2 nL2 none n ∧ Cond.instanceMethod y2 ∈ z_tbl) (hin : y2.name = "<init>") (hk : zLk own index y2) (hav : ∀ w ∈ (.ref o :: av), z_rk sh.length w) (hn : av.length = n) (hdp : d2 + 1 ≤ 100) (hwf : z_wf sh M) (hP : va_P (dC, dI) vwCl (z_W ρ cA sh M) H) (hD : va_D A (z_W ρ cA sh M)) (hS : va_S A s.heap H locs) (hsz : ls.size = nL) (hst : st0 = (av.map (z_v ρ)).reverse ++ .ref (ρ o) :: rest) (hrs : (rest.map fun v => v.category).sum ≤ 8) (hcs : cells + mc2 ≤ Rm.cells ∧ slots + ms2 ≤ Rm.slots) (hd : decode cc pc = .ok (.invokespecial index, 3))
    (k : ∀ (ρ' : Nat → Nat) (H1 : Heap) (locs1 : List Loc), z_wf sh1 M1 → (∀ i, i < sh.length → ρ' i = ρ i) → va_P (dC, dI) vwCl (z_W ρ' cA sh1 M1) H1 → va_D A (z_W ρ' cA sh1 M1) → va_S A s.heap H1 locs1 → W p l e Rm s m args below meth c H1 locs1 (cells + mc2) (slots + ms2) Q (F0 m (pc + 3) ls (rest))) :
    W p l e Rm s m args below meth c H locs cells slots Q (F0 m pc ls st0) := by
  subst hst
  obtain ⟨hx, hb, hml, hown, hts, hK, hA, hR1, hR2⟩ := C
  obtain ⟨w1, w2, w3, w4, w5⟩ := hw.1
  have hMet := hM dC dI cA ρ H.size hwf hav
  have hpay : ∀ w ∈ (Cond.code y2 cc2 nL2 none :: z_tbl), ∀ (a' : Array Value) (U : State), s.WarmedH U.vm → w.before a' U = true := fun w hw => z_pay hts w ((List.mem_cons.mp hw).elim (fun e => e ▸ w1) id)
  have hsig : ∀ sig, parseMethodDescriptor y2.desc = some sig → n = sig.parameters.length := fun sig h => by
    rw [h] at w4
    exact (Option.some.inj w4).symm
  have hfr : (z_rm d2 mc2 ms2).frames + 1 ≤ Rm.frames := by show d2 + 1 ≤ Rm.frames; omega
  have hlo : 8 + (nL2 + 11) + (z_rm d2 mc2 ms2).locals ≤ Rm.locals := by show 8 + (nL2 + 11) + 64 * d2 ≤ Rm.locals; omega
  have hrun : va_Run p l e Rm s m args below meth c H locs cells slots mc2 ms2 (F0 m pc ls ((av.map (z_v ρ)).reverse ++ .ref (ρ o) :: rest)) rest (z_Q (zDv sh1 M1) dC dI cA ρ sh.length (va_A (z_W ρ cA sh M) H.size) (Value.ref (ρ o) :: av.map (z_v ρ)).toArray) (va_A (z_W ρ cA sh M) H.size) := by
    rcases hk with hk | ⟨host, hk⟩
    · exact va_runI (As := av.map (z_v ρ)) (rest := rest) (b := ρ o) ⟨hx, hb, hml, hown, hts⟩ hMet ⟨⟨rfl, rfl, hfr, hlo, hpay, List.mem_cons_self, hts _ w1, hts _ w2, w3, hsig, hts _ hk⟩, hin, hts _ hw.2⟩ ⟨z_blind, fun U hU hW => ⟨rfl, by rw [hU], by rw [hU]; exact hP, va_K.moved hW.alike hK, hD.weaken (fun _ _ _ _ => trivial)⟩⟩ rfl (by simpa using hn) hsz rfl (lv_room hrs) hd hcs
    · exact va_runIN (As := av.map (z_v ρ)) (rest := rest) (b := ρ o) ⟨hx, hb, hml, hown, hts⟩ hMet ⟨⟨⟨rfl, rfl, hfr, hlo, hpay, List.mem_cons_self⟩, hts _ w1, hts _ w2, w3, hsig, hts _ hk⟩, hin, hts _ hw.2⟩ ⟨z_blind, fun U hU hW => ⟨rfl, by rw [hU], by rw [hU]; exact hP, va_K.moved hW.alike hK, hD.weaken (fun _ _ _ _ => trivial)⟩⟩ rfl (by simpa using hn) hsz rfl (lv_room hrs) hd hcs
  refine z_aft hrun hD hS hA (fun ρ' r sh' M' H1 locs1 hp hwf' hrk hn' hρ' hP1 hD1 hS1 => ?_)
  obtain ⟨rfl, rfl, rfl⟩ := hp
  exact k ρ' H1 locs1 hwf' hρ' hP1 hD1 hS1
theorem w_new {ci index n : Nat} (C : wC p Rm s m args c cc nL own dC dI cA A) (hci : ci < 12) (w1 : Cond.classLink own index (z_C ci) ∈ z_tbl) (w2 : Cond.instantiable (z_C ci) (z_N ci) ∈ z_tbl) (w3 : Cond.initialized (z_C ci) ∈ z_tbl) (hn : sh.length = n) (hs1 : sh ++ [.inl ci] = sh1) (hM : z_al M n = M1) (hwf : z_wf sh M) (hP : va_P (dC, dI) vwCl (z_W ρ cA sh M) H) (hD : va_D A (z_W ρ cA sh M)) (hS : va_S A s.heap H locs) (hcs : cells + 1 ≤ Rm.cells ∧ slots + z_N ci ≤ Rm.slots) (hd : decode cc pc = .ok (.new index, 3))
    (k : ∀ (ρ' : Nat → Nat) (H1 : Heap), z_wf sh1 M1 → (∀ i, i < sh.length → ρ' i = ρ i) → va_P (dC, dI) vwCl (z_W ρ' cA sh1 M1) H1 → va_D A (z_W ρ' cA sh1 M1) → va_S A s.heap H1 locs → W p l e Rm s m args below meth c H1 locs (cells + 1) (slots + z_N ci) Q (F0 m (pc + 3) ls (.ref (ρ' n) :: rest))) :
    W p l e Rm s m args below meth c H locs cells slots Q (F0 m pc ls rest) := by
  subst hn hs1 hM
  obtain ⟨hx, hb, hml, hown, hts, hK, hA, hR1, hR2⟩ := C
  have hnf : ∀ k, k < z_N ci → z_nf (z_ty ci k) = true := fun k hk => List.all_eq_true.mp (List.all_eq_true.mp z_nfs ci (List.mem_range.mpr hci)) k (List.mem_range.mpr hk)
  refine va_new (ci := ci) (fs := (List.range (z_N ci)).map (fun k => defaultValue (z_ty ci k))) hx hb hts (z_in hci) (z_ty ci) (z_tyok hci) hown (hts _ w1) (hts _ w2) (hts _ w3) hK hP hD hS hA (z_cl hci) (fun j hj => by simp [vp_V, hj]) hcs.1 hcs.2 hd (fun q H1 hP1 hD1 hS1 => ?_)
  have hρ' : ∀ i, i < sh.length → va_up ρ sh.length q i = ρ i := fun i hi => by simp [va_up, Nat.ne_of_lt hi]
  have e1 : z_W (va_up ρ sh.length q) cA (sh ++ [.inl ci]) (z_al M sh.length) = z_W ρ cA sh M ++ [(q, .inr (ci, (List.range (z_N ci)).map (fun k => defaultValue (z_ty ci k))))] := by
    rw [z_W_al hwf]
    congr 3
    show Sum.inr _ = _
    congr 2
    apply List.map_congr_left
    intro k hk
    exact z_born (hnf k (List.mem_range.mp hk))
  rw [← e1] at hP1 hD1
  have := k (va_up ρ sh.length q) H1 (z_wf_al hwf _) hρ' hP1 hD1 hS1
  rw [show va_up ρ sh.length q sh.length = q from by simp [va_up]] at this
  exact this
end WL
theorem in_10 : Cond.instantiable (z_C 10) (z_N 10) ∈ z_tbl := z_mem (List.mem_of_getElem? (i := 112) (by decide +kernel)) (by decide +kernel)
theorem ii_10 : Cond.initialized (z_C 10) ∈ z_tbl := z_mem (List.mem_of_getElem? (i := 94) (by decide +kernel)) (by decide +kernel)
theorem cl_L_7 : Cond.classLink RL 7 (z_C 10) ∈ z_tbl := z_mem (List.mem_of_getElem? (i := 111) (by decide +kernel)) (by decide +kernel)
theorem in_11 : Cond.instantiable (z_C 11) (z_N 11) ∈ z_tbl := z_mem (List.mem_of_getElem? (i := 1030) (by decide +kernel)) (by decide +kernel)
theorem ii_11 : Cond.initialized (z_C 11) ∈ z_tbl := z_mem (List.mem_of_getElem? (i := 106) (by decide +kernel)) (by decide +kernel)
theorem cl_L_10 : Cond.classLink RL 10 (z_C 11) ∈ z_tbl := z_mem (List.mem_of_getElem? (i := 1029) (by decide +kernel)) (by decide +kernel)
