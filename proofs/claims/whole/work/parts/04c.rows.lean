section ZC
variable {l : Launch} {y : MethodName} {cc : ByteArray} {nL : Nat} {ret : Option FieldType} {d mc ms n0 : Nat} {Post : zP} {cells slots pc : Nat} {lv lv' : List (Nat × Value)} {st : List Value} {sh : List zC} {M M1 : zM}
theorem z_pay {args : Array Value} {s : State} (hts : ∀ w ∈ z_tbl, w.before args s = true) : ∀ w ∈ z_tbl, ∀ (a' : Array Value) (U : State), s.WarmedH U.vm → w.before a' U = true := by
  intro w hw a' U hW
  have h1 := (List.mem_filter.mp hw).2
  rcases (Bool.or_eq_true _ _).mp h1 with h | h
  · exact word_at hW (good_of_word h) (hts w hw)
  · cases w with
    | methodLinkNest a i x h => exact va_Nw.use rfl (va_Nw.warmM hW (va_Nw.of rfl (hts _ hw)))
    | _ => simp [z_nest] at h
def zLk (own : String) (index : Nat) (y2 : MethodName) : Prop := Cond.methodLink own index y2 ∈ z_tbl ∨ ∃ host, Cond.methodLinkNest own index y2 host ∈ z_tbl
def zWd (y2 : MethodName) (cc2 : ByteArray) (nL2 : Nat) (ret2 : Option FieldType) (n : Nat) : Prop := Cond.code y2 cc2 nL2 ret2 ∈ z_tbl ∧ Cond.initialized y2.cls ∈ z_tbl ∧ (y2.cls ≠ "java/lang/invoke/MethodHandle" ∧ y2.cls ≠ "java/lang/invoke/VarHandle") ∧ (parseMethodDescriptor y2.desc).map (fun d => d.parameters.length) = some n ∧ nL2 ≤ 45
theorem z_mapc {n : Nat} {ρ ρ' : Nat → Nat} (h : ∀ i, i < n → ρ' i = ρ i) {st : List Value} (hs : ∀ v ∈ st, z_rk n v) : st.map (z_v ρ) = st.map (z_v ρ') := by
  apply List.map_congr_left
  intro v hv
  cases v with
  | ref a => show Value.ref (ρ a) = .ref (ρ' a); rw [h a (hs _ hv a rfl)]
  | _ => rfl
theorem z_mapcl {n : Nat} {ρ ρ' : Nat → Nat} (h : ∀ i, i < n → ρ' i = ρ i) {lv : List (Nat × Value)} (hs : ∀ q ∈ lv, z_rk n q.2) : lv.map (fun q => (q.1, z_v ρ q.2)) = lv.map (fun q => (q.1, z_v ρ' q.2)) := by
  apply List.map_congr_left
  intro q hv
  obtain ⟨i, v⟩ := q
  cases v with
  | ref a => show (i, Value.ref (ρ a)) = (i, .ref (ρ' a)); rw [h a (hs _ hv a rfl)]
  | _ => rfl
theorem z_blind {dC : Nat → ClassId} {dI : Nat → Nat → Nat} {cA : Nat → ClassId} {ρ : Nat → Nat} {sz : Nat} {av : List Value} : FrameBlind (z_Pc dC dI cA ρ sz av sh M) := fun a U g mk q => by
  obtain ⟨q0, q1, qP, qK, qD⟩ := q
  exact ⟨q0, q1, qP, va_K.moved (u := U) (U := U.calling g mk a) (Vm.Alike.refl U.vm) qK, qD⟩
theorem z_aft {p : Program} {e : Env} {Rm : Room} {s : State} {m : MethodId} {args : Array Value} {below : List Frame} {meth : Method} {c : Code} {dC : Nat → ClassId} {dI : Nat → Nat → Nat} {cA : Nat → ClassId} {A : Nat → Prop} {ρ : Nat → Nat} {H : Heap} {locs : List Loc} {ls : Array Slot} {st0 rest : List Value} {mc2 ms2 : Nat} {Post2 : zP} {Q : State → Prop} {args2 : Array Value}
    (hr : va_Run p l e Rm s m args below meth c H locs cells slots mc2 ms2 (F0 m pc ls st0) rest (z_Q Post2 dC dI cA ρ sh.length (va_A (z_W ρ cA sh M) H.size) args2) (va_A (z_W ρ cA sh M) H.size)) (hD : va_D A (z_W ρ cA sh M)) (hS : va_S A s.heap H locs) (hA : ∀ q, s.heap.size ≤ q → A q)
    (kk : ∀ (ρ' : Nat → Nat) (r : Option Value) (sh' : List zC) (M' : zM) (H1 : Heap) (locs1 : List Loc), Post2 r sh' M' → z_wf sh' M' → (∀ v, r = some v → z_rk sh'.length v) → sh.length ≤ sh'.length → (∀ i, i < sh.length → ρ' i = ρ i) → va_P (dC, dI) vwCl (z_W ρ' cA sh' M') H1 → va_D A (z_W ρ' cA sh' M') → va_S A s.heap H1 locs1 → W p l e Rm s m args below meth c H1 locs1 (cells + mc2) (slots + ms2) Q (F0 m (pc + 3) ls ((r.map (z_v ρ')).toList ++ rest))) :
    W p l e Rm s m args below meth c H locs cells slots Q (F0 m pc ls st0) := by
  intro T hT X
  obtain ⟨v, st₀, t, T', L, h0, X', hL, e1, e2, ⟨⟨ρ', r, sh', M', hv, hp, hwf', hrk, hn, hρ', hP1, hK1, hD1⟩, hz, hk⟩, stp⟩ := hr T hT X
  have hvr : v = r.map (z_v ρ') := by injection hv
  subst hvr
  rw [h0] at hz hk
  have hF : ∀ q, va_A (z_W ρ cA sh M) H.size q → A q := by
    intro q h
    rcases h with ⟨k, ee, h⟩ | h
    · exact hD.2 k _ h
    · exact hA q (Nat.le_trans hS.1 h)
  obtain ⟨t2, a1, b1⟩ := kk ρ' r sh' M' T'.heap (locs ++ L) hp hwf' hrk hn hρ' (by rw [e1]; exact hP1) (hD1.weaken (fun k q _ h => hF q.1 h))
    ⟨Nat.le_trans hS.1 (by rw [e1]; exact hz), fun q h1 h2 => by rw [e1, hk q (Nat.lt_of_lt_of_le h1 hS.1) (fun z => h2 (hF q z))]; exact hS.2.1 q h1 h2, fun q hq => by
      rcases List.mem_append.mp hq with h | h
      · exact hS.2.2 q h
      · exact hF _ (hL q h)⟩ T' rfl X'
  exact ⟨t2, stp t2 a1, b1⟩
theorem z_callV {y2 : MethodName} {cc2 : ByteArray} {nL2 : Nat} {ret2 : Option FieldType} {d2 mc2 ms2 n index : Nat} {av st0 : List Value} {Post2 : zP} {o ci : Nat} (hM : zMet l y2 cc2 nL2 ret2 d2 mc2 ms2 (.ref o :: av) sh M Post2) (hw : zWd y2 cc2 nL2 ret2 n) (hk : zLk y.cls index y2) (hi : Cond.instanceMethod y2 ∈ z_tbl) (hse : Cond.selects y2.cls y2 y2 ∈ z_tbl) (ho : sh[o]? = some (.inl ci)) (hC : z_C ci = y2.cls) (hci : ci < 12) (hn : av.length = n) (hdp : d2 + 1 ≤ d) (hs0 : st0 = av.reverse ++ .ref o :: st) (hrs : (st.map fun v => v.category).sum ≤ 8) (hcs : cells + mc2 ≤ mc ∧ slots + ms2 ≤ ms) (hd : decode cc pc = .ok (.invokevirtual index, 3))
    (h : ∀ r sh' M', Post2 r sh' M' → zA l y cc nL ret d mc ms n0 Post (cells + mc2) (slots + ms2) (pc + 3) lv (r.toList ++ st) sh' M') : zA l y cc nL ret d mc ms n0 Post cells slots pc lv st0 sh M := by
  subst hs0
  intro p e Rm s m args below meth c dC dI cA A ρ0 Q C E ρ H locs ls hwf hlv hst hn1 hρ hc hs hP hD hS hl
  obtain ⟨hx, hb, hr, hml, hown, hnm, hts, hlk, hK, hA, hd1, hd2, hd3, hd4⟩ := id C
  obtain ⟨w1, w2, w3, w4, w5⟩ := hw
  have hMet := hM dC dI cA ρ H.size hwf (fun v hv => (List.mem_cons.mp hv).elim (fun e a ha => hst v (by rw [e]; simp) a ha) (fun hv a ha => hst v (by simp [hv]) a ha))
  have hpay : ∀ w ∈ (Cond.code y2 cc2 nL2 ret2 :: z_tbl), ∀ (a' : Array Value) (U : State), s.WarmedH U.vm → w.before a' U = true := fun w hw => z_pay hts w ((List.mem_cons.mp hw).elim (fun e => e ▸ w1) id)
  have hsig : ∀ sig, parseMethodDescriptor y2.desc = some sig → n = sig.parameters.length := fun sig h => by
    rw [h] at w4
    exact (Option.some.inj w4).symm
  have hfr : (z_rm d2 mc2 ms2).frames + 1 ≤ Rm.frames := by show d2 + 1 ≤ Rm.frames; omega
  have hlo : 8 + (nL2 + 11) + (z_rm d2 mc2 ms2).locals ≤ Rm.locals := by show 8 + (nL2 + 11) + 64 * d2 ≤ Rm.locals; omega
  have hroom : 2 * (F0 m pc ls ((av.reverse ++ .ref o :: st).map (z_v ρ))).monitorRoom + ((st.map (z_v ρ)).map fun v => v.category).sum ≤ 8 := lv_room (by rw [List.map_map]; rw [show ((fun v : Value => v.category) ∘ z_v ρ) = (fun v => v.category) from funext (z_v_cat ρ)]; exact hrs)
  have hpre : PreV s H y2.cls (ρ o) (z_Pc dC dI cA ρ H.size (.ref o :: av) sh M) (av.map (z_v ρ)) := ⟨z_blind, by rw [← hC]; exact va_recv hK hP (ci := ci) (q0 := o) (z_cl hci) (z_W_at ho), fun U hU hW => ⟨rfl, by rw [hU], by rw [hU]; exact hP, va_K.moved hW.alike hK, hD.weaken (fun _ _ _ _ => trivial)⟩⟩
  have hrun : va_Run p l e Rm s m args below meth c H locs cells slots mc2 ms2 (F0 m pc ls ((av.reverse ++ .ref o :: st).map (z_v ρ))) (st.map (z_v ρ)) (z_Q Post2 dC dI cA ρ sh.length (va_A (z_W ρ cA sh M) H.size) (Value.ref (ρ o) :: av.map (z_v ρ)).toArray) (va_A (z_W ρ cA sh M) H.size) := by
    rcases hk with hk | ⟨host, hk⟩
    · exact va_runV (As := av.map (z_v ρ)) (rest := st.map (z_v ρ)) (b := ρ o) (C := y2.cls) ⟨hx, hb, hml, hown, hts⟩ hMet ⟨⟨rfl, rfl, hfr, hlo, hpay, List.mem_cons_self, hts _ w1, hts _ w2, w3, hsig, hts _ hk⟩, hts _ hi, hts _ hse⟩ hpre rfl (by simpa using hn) hl.1 (by simp [z_v, List.map_append, List.map_reverse]) hroom hd ⟨by omega, by omega⟩
    · exact va_runVN (As := av.map (z_v ρ)) (rest := st.map (z_v ρ)) (b := ρ o) (C := y2.cls) ⟨hx, hb, hml, hown, hts⟩ hMet ⟨⟨⟨rfl, rfl, hfr, hlo, hpay, List.mem_cons_self⟩, hts _ w1, hts _ w2, w3, hsig, hts _ hk⟩, hts _ hi, hts _ hse⟩ hpre rfl (by simpa using hn) hl.1 (by simp [z_v, List.map_append, List.map_reverse]) hroom hd ⟨by omega, by omega⟩
  refine z_aft hrun hD hS hA (fun ρ' r sh' M' H1 locs1 hp hwf' hrk hn' hρ' hP1 hD1 hS1 => ?_)
  have hst2 : ∀ v ∈ st, z_rk sh.length v := fun v hv => hst v (by simp [hv])
  have := h r sh' M' hp p e Rm s m args below meth c dC dI cA A ρ0 Q C E ρ' H1 locs1 ls hwf' (fun q hq a ha => Nat.lt_of_lt_of_le (hlv q hq a ha) hn') (fun v hv => (List.mem_append.mp hv).elim (fun hv => hrk v (Option.mem_toList.mp hv)) (fun hv a ha => Nat.lt_of_lt_of_le (hst2 v hv a ha) hn')) (Nat.le_trans hn1 hn') (fun i hi => (hρ' i (Nat.lt_of_lt_of_le hi hn1)).trans (hρ i hi)) hcs.1 hcs.2 hP1 hD1 hS1 (by rw [← z_mapcl hρ' hlv]; exact hl)
  rw [List.map_append, ← z_mapc hρ' hst2] at this
  cases r <;> exact this
theorem z_callS {y2 : MethodName} {cc2 : ByteArray} {nL2 : Nat} {ret2 : Option FieldType} {d2 mc2 ms2 n index : Nat} {av st0 : List Value} {Post2 : zP} (hM : zMet l y2 cc2 nL2 ret2 d2 mc2 ms2 av sh M Post2) (hw : zWd y2 cc2 nL2 ret2 n) (hk : zLk y.cls index y2) (hi : Cond.static y2 ∈ z_tbl) (hn : av.length = n) (hdp : d2 + 1 ≤ d) (hs0 : st0 = av.reverse ++ st) (hrs : (st.map fun v => v.category).sum ≤ 8) (hcs : cells + mc2 ≤ mc ∧ slots + ms2 ≤ ms) (hd : decode cc pc = .ok (.invokestatic index, 3))
    (h : ∀ r sh' M', Post2 r sh' M' → zA l y cc nL ret d mc ms n0 Post (cells + mc2) (slots + ms2) (pc + 3) lv (r.toList ++ st) sh' M') : zA l y cc nL ret d mc ms n0 Post cells slots pc lv st0 sh M := by
  subst hs0
  intro p e Rm s m args below meth c dC dI cA A ρ0 Q C E ρ H locs ls hwf hlv hst hn1 hρ hc hs hP hD hS hl
  obtain ⟨hx, hb, hr, hml, hown, hnm, hts, hlk, hK, hA, hd1, hd2, hd3, hd4⟩ := id C
  obtain ⟨w1, w2, w3, w4, w5⟩ := hw
  have hMet := hM dC dI cA ρ H.size hwf (fun v hv a ha => hst v (by simp [hv]) a ha)
  have hpay : ∀ w ∈ (Cond.code y2 cc2 nL2 ret2 :: z_tbl), ∀ (a' : Array Value) (U : State), s.WarmedH U.vm → w.before a' U = true := fun w hw => z_pay hts w ((List.mem_cons.mp hw).elim (fun e => e ▸ w1) id)
  have hsig : ∀ sig, parseMethodDescriptor y2.desc = some sig → n = sig.parameters.length := fun sig h => by
    rw [h] at w4
    exact (Option.some.inj w4).symm
  have hfr : (z_rm d2 mc2 ms2).frames + 1 ≤ Rm.frames := by show d2 + 1 ≤ Rm.frames; omega
  have hlo : 8 + (nL2 + 11) + (z_rm d2 mc2 ms2).locals ≤ Rm.locals := by show 8 + (nL2 + 11) + 64 * d2 ≤ Rm.locals; omega
  have hroom : 2 * (F0 m pc ls ((av.reverse ++ st).map (z_v ρ))).monitorRoom + ((st.map (z_v ρ)).map fun v => v.category).sum ≤ 8 := lv_room (by rw [List.map_map]; rw [show ((fun v : Value => v.category) ∘ z_v ρ) = (fun v => v.category) from funext (z_v_cat ρ)]; exact hrs)
  have hrun : va_Run p l e Rm s m args below meth c H locs cells slots mc2 ms2 (F0 m pc ls ((av.reverse ++ st).map (z_v ρ))) (st.map (z_v ρ)) (z_Q Post2 dC dI cA ρ sh.length (va_A (z_W ρ cA sh M) H.size) (av.map (z_v ρ)).toArray) (va_A (z_W ρ cA sh M) H.size) := by
    rcases hk with hk | ⟨host, hk⟩
    · exact va_runS (As := av.map (z_v ρ)) (rest := st.map (z_v ρ)) ⟨hx, hb, hml, hown, hts⟩ hMet ⟨⟨rfl, rfl, hfr, hlo, hpay, List.mem_cons_self, hts _ w1, hts _ w2, w3, hsig, hts _ hk⟩, hts _ hi⟩ ⟨z_blind, fun U hU hW => ⟨rfl, by rw [hU], by rw [hU]; exact hP, va_K.moved hW.alike hK, hD.weaken (fun _ _ _ _ => trivial)⟩⟩ rfl (by simpa using hn) hl.1 (by simp [List.map_append, List.map_reverse]) hroom hd ⟨by omega, by omega⟩
    · exact va_runSN (As := av.map (z_v ρ)) (rest := st.map (z_v ρ)) ⟨hx, hb, hml, hown, hts⟩ hMet ⟨⟨⟨rfl, rfl, hfr, hlo, hpay, List.mem_cons_self⟩, hts _ w1, hts _ w2, w3, hsig, hts _ hk⟩, hts _ hi, trivial⟩ ⟨z_blind, fun U hU hW => ⟨rfl, by rw [hU], by rw [hU]; exact hP, va_K.moved hW.alike hK, hD.weaken (fun _ _ _ _ => trivial)⟩⟩ rfl (by simpa using hn) hl.1 (by simp [List.map_append, List.map_reverse]) hroom hd ⟨by omega, by omega⟩
  refine z_aft hrun hD hS hA (fun ρ' r sh' M' H1 locs1 hp hwf' hrk hn' hρ' hP1 hD1 hS1 => ?_)
  have hst2 : ∀ v ∈ st, z_rk sh.length v := fun v hv => hst v (by simp [hv])
  have := h r sh' M' hp p e Rm s m args below meth c dC dI cA A ρ0 Q C E ρ' H1 locs1 ls hwf' (fun q hq a ha => Nat.lt_of_lt_of_le (hlv q hq a ha) hn') (fun v hv => (List.mem_append.mp hv).elim (fun hv => hrk v (Option.mem_toList.mp hv)) (fun hv a ha => Nat.lt_of_lt_of_le (hst2 v hv a ha) hn')) (Nat.le_trans hn1 hn') (fun i hi => (hρ' i (Nat.lt_of_lt_of_le hi hn1)).trans (hρ i hi)) hcs.1 hcs.2 hP1 hD1 hS1 (by rw [← z_mapcl hρ' hlv]; exact hl)
  rw [List.map_append, ← z_mapc hρ' hst2] at this
  cases r <;> exact this
theorem z_callI {y2 : MethodName} {cc2 : ByteArray} {nL2 : Nat} {d2 mc2 ms2 n index : Nat} {av st0 : List Value} {Post2 : zP} {o : Nat} (hM : zMet l y2 cc2 nL2 none d2 mc2 ms2 (.ref o :: av) sh M Post2) (hw : zWd y2 cc2 nL2 none n) (hk : zLk y.cls index y2) (hi : Cond.instanceMethod y2 ∈ z_tbl) (hin : y2.name = "<init>") (hn : av.length = n) (hdp : d2 + 1 ≤ d) (hs0 : st0 = av.reverse ++ .ref o :: st) (hrs : (st.map fun v => v.category).sum ≤ 8) (hcs : cells + mc2 ≤ mc ∧ slots + ms2 ≤ ms) (hd : decode cc pc = .ok (.invokespecial index, 3))
    (h : ∀ r sh' M', Post2 r sh' M' → zA l y cc nL ret d mc ms n0 Post (cells + mc2) (slots + ms2) (pc + 3) lv (r.toList ++ st) sh' M') : zA l y cc nL ret d mc ms n0 Post cells slots pc lv st0 sh M := by
  subst hs0
  intro p e Rm s m args below meth c dC dI cA A ρ0 Q C E ρ H locs ls hwf hlv hst hn1 hρ hc hs hP hD hS hl
  obtain ⟨hx, hb, hr, hml, hown, hnm, hts, hlk, hK, hA, hd1, hd2, hd3, hd4⟩ := id C
  obtain ⟨w1, w2, w3, w4, w5⟩ := hw
  have hMet := hM dC dI cA ρ H.size hwf (fun v hv => (List.mem_cons.mp hv).elim (fun e a ha => hst v (by rw [e]; simp) a ha) (fun hv a ha => hst v (by simp [hv]) a ha))
  have hpay : ∀ w ∈ (Cond.code y2 cc2 nL2 none :: z_tbl), ∀ (a' : Array Value) (U : State), s.WarmedH U.vm → w.before a' U = true := fun w hw => z_pay hts w ((List.mem_cons.mp hw).elim (fun e => e ▸ w1) id)
  have hsig : ∀ sig, parseMethodDescriptor y2.desc = some sig → n = sig.parameters.length := fun sig h => by
    rw [h] at w4
    exact (Option.some.inj w4).symm
  have hfr : (z_rm d2 mc2 ms2).frames + 1 ≤ Rm.frames := by show d2 + 1 ≤ Rm.frames; omega
  have hlo : 8 + (nL2 + 11) + (z_rm d2 mc2 ms2).locals ≤ Rm.locals := by show 8 + (nL2 + 11) + 64 * d2 ≤ Rm.locals; omega
  have hroom : 2 * (F0 m pc ls ((av.reverse ++ .ref o :: st).map (z_v ρ))).monitorRoom + ((st.map (z_v ρ)).map fun v => v.category).sum ≤ 8 := lv_room (by rw [List.map_map]; rw [show ((fun v : Value => v.category) ∘ z_v ρ) = (fun v => v.category) from funext (z_v_cat ρ)]; exact hrs)
  have hrun : va_Run p l e Rm s m args below meth c H locs cells slots mc2 ms2 (F0 m pc ls ((av.reverse ++ .ref o :: st).map (z_v ρ))) (st.map (z_v ρ)) (z_Q Post2 dC dI cA ρ sh.length (va_A (z_W ρ cA sh M) H.size) (Value.ref (ρ o) :: av.map (z_v ρ)).toArray) (va_A (z_W ρ cA sh M) H.size) := by
    rcases hk with hk | ⟨host, hk⟩
    · exact va_runI (As := av.map (z_v ρ)) (rest := st.map (z_v ρ)) (b := ρ o) ⟨hx, hb, hml, hown, hts⟩ hMet ⟨⟨rfl, rfl, hfr, hlo, hpay, List.mem_cons_self, hts _ w1, hts _ w2, w3, hsig, hts _ hk⟩, hin, hts _ hi⟩ ⟨z_blind, fun U hU hW => ⟨rfl, by rw [hU], by rw [hU]; exact hP, va_K.moved hW.alike hK, hD.weaken (fun _ _ _ _ => trivial)⟩⟩ rfl (by simpa using hn) hl.1 (by simp [z_v, List.map_append, List.map_reverse]) hroom hd ⟨by omega, by omega⟩
    · exact va_runIN (As := av.map (z_v ρ)) (rest := st.map (z_v ρ)) (b := ρ o) ⟨hx, hb, hml, hown, hts⟩ hMet ⟨⟨⟨rfl, rfl, hfr, hlo, hpay, List.mem_cons_self⟩, hts _ w1, hts _ w2, w3, hsig, hts _ hk⟩, hin, hts _ hi⟩ ⟨z_blind, fun U hU hW => ⟨rfl, by rw [hU], by rw [hU]; exact hP, va_K.moved hW.alike hK, hD.weaken (fun _ _ _ _ => trivial)⟩⟩ rfl (by simpa using hn) hl.1 (by simp [z_v, List.map_append, List.map_reverse]) hroom hd ⟨by omega, by omega⟩
  refine z_aft hrun hD hS hA (fun ρ' r sh' M' H1 locs1 hp hwf' hrk hn' hρ' hP1 hD1 hS1 => ?_)
  have hst2 : ∀ v ∈ st, z_rk sh.length v := fun v hv => hst v (by simp [hv])
  have := h r sh' M' hp p e Rm s m args below meth c dC dI cA A ρ0 Q C E ρ' H1 locs1 ls hwf' (fun q hq a ha => Nat.lt_of_lt_of_le (hlv q hq a ha) hn') (fun v hv => (List.mem_append.mp hv).elim (fun hv => hrk v (Option.mem_toList.mp hv)) (fun hv a ha => Nat.lt_of_lt_of_le (hst2 v hv a ha) hn')) (Nat.le_trans hn1 hn') (fun i hi => (hρ' i (Nat.lt_of_lt_of_le hi hn1)).trans (hρ i hi)) hcs.1 hcs.2 hP1 hD1 hS1 (by rw [← z_mapcl hρ' hlv]; exact hl)
  rw [List.map_append, ← z_mapc hρ' hst2] at this
  cases r <;> exact this
def zDi (sh : List zC) (v : Int32) (M1 : zM) : zP := fun r sh' M' => r = some (.int v) ∧ sh' = sh ∧ M' = M1
def zDl (sh : List zC) (v : Int64) (M1 : zM) : zP := fun r sh' M' => r = some (.long v) ∧ sh' = sh ∧ M' = M1
def zDv (sh : List zC) (M1 : zM) : zP := fun r sh' M' => r = none ∧ sh' = sh ∧ M' = M1
/-- the words of a method that is called: of an object, of a class -/
def zKV (y2 : MethodName) (cc2 : ByteArray) (nL2 : Nat) (ret2 : Option FieldType) (n ci : Nat) : Prop := zWd y2 cc2 nL2 ret2 n ∧ Cond.instanceMethod y2 ∈ z_tbl ∧ Cond.selects y2.cls y2 y2 ∈ z_tbl ∧ z_C ci = y2.cls ∧ ci < 12
def zKS (y2 : MethodName) (cc2 : ByteArray) (nL2 : Nat) (ret2 : Option FieldType) (n : Nat) : Prop := zWd y2 cc2 nL2 ret2 n ∧ Cond.static y2 ∈ z_tbl
theorem z_cVi {y2 : MethodName} {cc2 : ByteArray} {nL2 : Nat} {ret2 : Option FieldType} {d2 n index : Nat} {av st0 : List Value} {o ci : Nat} {v : Int32} (hM : zMet l y2 cc2 nL2 ret2 d2 0 0 (.ref o :: av) sh M (zDi sh v M1)) (hw : zKV y2 cc2 nL2 ret2 n ci) (hk : zLk y.cls index y2) (ho : z_tm sh ci o) (hn : av.length = n) (hdp : d2 + 1 ≤ d) (hs0 : st0 = av.reverse ++ .ref o :: st) (hrs : (st.map fun v => v.category).sum ≤ 8) (hcs : cells ≤ mc ∧ slots ≤ ms) (hd : decode cc pc = .ok (.invokevirtual index, 3)) (h : zA l y cc nL ret d mc ms n0 Post cells slots (pc + 3) lv (.int v :: st) sh M1) : zA l y cc nL ret d mc ms n0 Post cells slots pc lv st0 sh M :=
  z_callV hM hw.1 hk hw.2.1 hw.2.2.1 (z_ob_of ho hw.2.2.2.2) hw.2.2.2.1 hw.2.2.2.2 hn hdp hs0 hrs hcs hd (fun r sh' M' hp => by obtain ⟨rfl, rfl, rfl⟩ := hp; exact h)
theorem z_cSi {y2 : MethodName} {cc2 : ByteArray} {nL2 : Nat} {ret2 : Option FieldType} {d2 n index : Nat} {av st0 : List Value} {v : Int32} (hM : zMet l y2 cc2 nL2 ret2 d2 0 0 av sh M (zDi sh v M1)) (hw : zKS y2 cc2 nL2 ret2 n) (hk : zLk y.cls index y2) (hn : av.length = n) (hdp : d2 + 1 ≤ d) (hs0 : st0 = av.reverse ++ st) (hrs : (st.map fun v => v.category).sum ≤ 8) (hcs : cells ≤ mc ∧ slots ≤ ms) (hd : decode cc pc = .ok (.invokestatic index, 3)) (h : zA l y cc nL ret d mc ms n0 Post cells slots (pc + 3) lv (.int v :: st) sh M1) : zA l y cc nL ret d mc ms n0 Post cells slots pc lv st0 sh M :=
  z_callS hM hw.1 hk hw.2 hn hdp hs0 hrs hcs hd (fun r sh' M' hp => by obtain ⟨rfl, rfl, rfl⟩ := hp; exact h)
theorem z_cVl {y2 : MethodName} {cc2 : ByteArray} {nL2 : Nat} {ret2 : Option FieldType} {d2 n index : Nat} {av st0 : List Value} {o ci : Nat} {v : Int64} (hM : zMet l y2 cc2 nL2 ret2 d2 0 0 (.ref o :: av) sh M (zDl sh v M1)) (hw : zKV y2 cc2 nL2 ret2 n ci) (hk : zLk y.cls index y2) (ho : z_tm sh ci o) (hn : av.length = n) (hdp : d2 + 1 ≤ d) (hs0 : st0 = av.reverse ++ .ref o :: st) (hrs : (st.map fun v => v.category).sum ≤ 8) (hcs : cells ≤ mc ∧ slots ≤ ms) (hd : decode cc pc = .ok (.invokevirtual index, 3)) (h : zA l y cc nL ret d mc ms n0 Post cells slots (pc + 3) lv (.long v :: st) sh M1) : zA l y cc nL ret d mc ms n0 Post cells slots pc lv st0 sh M :=
  z_callV hM hw.1 hk hw.2.1 hw.2.2.1 (z_ob_of ho hw.2.2.2.2) hw.2.2.2.1 hw.2.2.2.2 hn hdp hs0 hrs hcs hd (fun r sh' M' hp => by obtain ⟨rfl, rfl, rfl⟩ := hp; exact h)
theorem z_cSl {y2 : MethodName} {cc2 : ByteArray} {nL2 : Nat} {ret2 : Option FieldType} {d2 n index : Nat} {av st0 : List Value} {v : Int64} (hM : zMet l y2 cc2 nL2 ret2 d2 0 0 av sh M (zDl sh v M1)) (hw : zKS y2 cc2 nL2 ret2 n) (hk : zLk y.cls index y2) (hn : av.length = n) (hdp : d2 + 1 ≤ d) (hs0 : st0 = av.reverse ++ st) (hrs : (st.map fun v => v.category).sum ≤ 8) (hcs : cells ≤ mc ∧ slots ≤ ms) (hd : decode cc pc = .ok (.invokestatic index, 3)) (h : zA l y cc nL ret d mc ms n0 Post cells slots (pc + 3) lv (.long v :: st) sh M1) : zA l y cc nL ret d mc ms n0 Post cells slots pc lv st0 sh M :=
  z_callS hM hw.1 hk hw.2 hn hdp hs0 hrs hcs hd (fun r sh' M' hp => by obtain ⟨rfl, rfl, rfl⟩ := hp; exact h)
theorem z_cVv {y2 : MethodName} {cc2 : ByteArray} {nL2 : Nat} {ret2 : Option FieldType} {d2 n index : Nat} {av st0 : List Value} {o ci : Nat} (hM : zMet l y2 cc2 nL2 ret2 d2 0 0 (.ref o :: av) sh M (zDv sh M1)) (hw : zKV y2 cc2 nL2 ret2 n ci) (hk : zLk y.cls index y2) (ho : z_tm sh ci o) (hn : av.length = n) (hdp : d2 + 1 ≤ d) (hs0 : st0 = av.reverse ++ .ref o :: st) (hrs : (st.map fun v => v.category).sum ≤ 8) (hcs : cells ≤ mc ∧ slots ≤ ms) (hd : decode cc pc = .ok (.invokevirtual index, 3)) (h : zA l y cc nL ret d mc ms n0 Post cells slots (pc + 3) lv (st) sh M1) : zA l y cc nL ret d mc ms n0 Post cells slots pc lv st0 sh M :=
  z_callV hM hw.1 hk hw.2.1 hw.2.2.1 (z_ob_of ho hw.2.2.2.2) hw.2.2.2.1 hw.2.2.2.2 hn hdp hs0 hrs hcs hd (fun r sh' M' hp => by obtain ⟨rfl, rfl, rfl⟩ := hp; exact h)
theorem z_cSv {y2 : MethodName} {cc2 : ByteArray} {nL2 : Nat} {ret2 : Option FieldType} {d2 n index : Nat} {av st0 : List Value} (hM : zMet l y2 cc2 nL2 ret2 d2 0 0 av sh M (zDv sh M1)) (hw : zKS y2 cc2 nL2 ret2 n) (hk : zLk y.cls index y2) (hn : av.length = n) (hdp : d2 + 1 ≤ d) (hs0 : st0 = av.reverse ++ st) (hrs : (st.map fun v => v.category).sum ≤ 8) (hcs : cells ≤ mc ∧ slots ≤ ms) (hd : decode cc pc = .ok (.invokestatic index, 3)) (h : zA l y cc nL ret d mc ms n0 Post cells slots (pc + 3) lv (st) sh M1) : zA l y cc nL ret d mc ms n0 Post cells slots pc lv st0 sh M :=
  z_callS hM hw.1 hk hw.2 hn hdp hs0 hrs hcs hd (fun r sh' M' hp => by obtain ⟨rfl, rfl, rfl⟩ := hp; exact h)
theorem z_objInit {idx o : Nat} (h1 : Cond.methodLink y.cls idx objectInit ∈ z_tbl) (h2 : Cond.instanceMethod objectInit ∈ z_tbl) (h3 : Cond.code objectInit ⟨#[0xb1]⟩ 1 none ∈ z_tbl) (hdp : 1 ≤ d) (hrs : (st.map fun v => v.category).sum ≤ 8) (hd : decode cc pc = .ok (.invokespecial idx, 3)) (h : zA l y cc nL ret d mc ms n0 Post cells slots (pc + 3) lv st sh M) : zA l y cc nL ret d mc ms n0 Post cells slots pc lv (.ref o :: st) sh M := by
  intro p e Rm s m args below meth c dC dI cA A ρ0 Q C E ρ H locs ls hwf hlv hst hn1 hρ hc hs hP hD hS hl
  obtain ⟨hx, hb, hr, hml, hown, hnm, hts, hlk, hK, hA, hd1, hd2, hd3, hd4⟩ := id C
  refine W.objInit hx hb hown (hts _ h1) (hts _ h2) (hts _ h3) rfl (by rw [hml]; exact hl.1) rfl hd (by omega) ?_ ?_
  · have : ((st.map (z_v ρ)).map fun v => v.category).sum ≤ 8 := by rw [List.map_map]; rw [show ((fun v : Value => v.category) ∘ z_v ρ) = (fun v => v.category) from funext (z_v_cat ρ)]; exact hrs
    show 2 * 0 + ((st.map (z_v ρ)).map fun v => v.category).sum + 12 ≤ Rm.locals
    omega
  · exact h p e Rm s m args below meth c dC dI cA A ρ0 Q C E ρ H locs ls hwf hlv (z_tl hst) hn1 hρ hc hs hP hD hS hl
theorem z_nfw : nativeFrameWords "java/lang/System" "arraycopy" 5 ≤ 40 := by decide +kernel
theorem z_copy {idx a b : Nat} {sp dp n : Int32} (h1 : Cond.methodLink y.cls idx arraycopyName ∈ z_tbl) (h2 : Cond.native arraycopyName ∈ z_tbl) (h3 : Cond.static arraycopyName ∈ z_tbl) (h4 : Cond.initialized "java/lang/System" ∈ z_tbl) (ha : z_tm sh 100 a) (hb' : z_tm sh 100 b) (g1 : ¬ sp < 0) (g2 : ¬ dp < 0) (g3 : ¬ n < 0) (g4 : sp.toNatClampNeg + n.toNatClampNeg ≤ z_ln sh a) (g5 : dp.toNatClampNeg + n.toNatClampNeg ≤ z_ln sh b) (hdp : 1 ≤ d) (hrs : (st.map fun v => v.category).sum ≤ 8) (hM : (va_up M.1 b (va_cpy (M.1 a) (M.1 b) sp.toNatClampNeg dp.toNatClampNeg n.toNatClampNeg), M.2) = M1) (hd : decode cc pc = .ok (.invokestatic idx, 3)) (h : zA l y cc nL ret d mc ms n0 Post cells slots (pc + 3) lv st sh M1) : zA l y cc nL ret d mc ms n0 Post cells slots pc lv (.int n :: .int dp :: .ref b :: .int sp :: .ref a :: st) sh M := by
  subst hM
  intro p e Rm s m args below meth c dC dI cA A ρ0 Q C E ρ H locs ls hwf hlv hst hn1 hρ hc hs hP hD hS hl
  obtain ⟨hx, hb, hr, hml, hown, hnm, hts, hlk, hK, hA, hd1, hd2, hd3, hd4⟩ := id C
  refine va_copyi hx hb (by rw [hml]; exact hl.1.symm) hown (hts _ h1) (hts _ h2) (hts _ h3) (hts _ h4) hK hP hD hS a b 0 0 (z_W_at (z_ln_of ha (by decide))) (z_W_at (z_ln_of hb' (by decide))) (ty := .int) rfl rfl rfl g1 g2 g3 g4 g5 (fun _ _ => rfl) (by omega) ?_ hd (fun H1 locs1 hP1 hD1 hS1 => ?_)
  · have : ((st.map (z_v ρ)).map fun v => v.category).sum ≤ 8 := by rw [List.map_map]; rw [show ((fun v : Value => v.category) ∘ z_v ρ) = (fun v => v.category) from funext (z_v_cat ρ)]; exact hrs
    have := z_nfw
    omega
  · have e1 : z_W ρ cA sh (va_up M.1 b (va_cpy (M.1 a) (M.1 b) sp.toNatClampNeg dp.toNatClampNeg n.toNatClampNeg), M.2) = (z_W ρ cA sh M).set b (ρ b, .inl (cA 0, z_ln sh b, .inl (va_cpy (M.1 a) (M.1 b) sp.toNatClampNeg dp.toNatClampNeg n.toNatClampNeg))) := by
      have e0 : va_up M.1 b (va_cpy (M.1 a) (M.1 b) sp.toNatClampNeg dp.toNatClampNeg n.toNatClampNeg) b = va_cpy (M.1 a) (M.1 b) sp.toNatClampNeg dp.toNatClampNeg n.toNatClampNeg := by simp [va_up]
      refine Eq.trans ?_ (congrArg (fun z => (z_W ρ cA sh M).set b (ρ b, .inl (cA 0, z_ln sh b, .inl z))) e0)
      exact (z_W_upd (M := M) (M' := (va_up M.1 b (va_cpy (M.1 a) (M.1 b) sp.toNatClampNeg dp.toNatClampNeg n.toNatClampNeg), M.2)) (z_ln_of hb' (by decide)) (fun i hi => by simp [va_up, hi]) (fun _ _ => rfl) (fun _ _ => rfl)).symm
    rw [← e1] at hP1 hD1
    exact h p e Rm s m args below meth c dC dI cA A ρ0 Q C E ρ H1 locs1 ls hwf hlv (z_tl (z_tl (z_tl (z_tl (z_tl hst))))) hn1 hρ hc hs hP1 hD1 hS1 hl
end ZC
