section ZN
variable {l : Launch} {y : MethodName} {cc : ByteArray} {nL : Nat} {ret : Option FieldType} {d mc ms n0 : Nat} {Post : zP} {cells slots pc : Nat} {lv lv' : List (Nat × Value)} {st : List Value} {sh sh1 : List zC} {M M1 : zM}
/-- a new cell: all is zero there -/
def z_al (M : zM) (n : Nat) : zM := (va_up M.1 n (fun _ => 0), va_up M.2.1 n (fun _ => none), va_up M.2.2 n (fun _ => 0))
theorem z_al_off {n i : Nat} (h : i ≠ n) : (z_al M n).1 i = M.1 i ∧ (z_al M n).2.1 i = M.2.1 i ∧ (z_al M n).2.2 i = M.2.2 i := by simp [z_al, va_up, h]
theorem z_tm.app {c : zC} {t a : Nat} (h : z_tm sh t a) : z_tm (sh ++ [c]) t a := by
  rcases h with ⟨h1, h⟩ | ⟨h1, n, h⟩
  · exact Or.inl ⟨h1, by rw [List.getElem?_append_left (List.getElem?_eq_some_iff.mp h).1]; exact h⟩
  · exact Or.inr ⟨h1, n, by rw [List.getElem?_append_left (List.getElem?_eq_some_iff.mp h).1]; exact h⟩
theorem z_wf_al (hw : z_wf sh M) (c : zC) : z_wf (sh ++ [c]) (z_al M sh.length) := by
  intro i ci k a hi hk ha
  by_cases hn : i = sh.length
  · subst hn
    have : (z_al M sh.length).2.1 sh.length k = none := by simp [z_al, va_up]
    rw [this] at ha
    cases ha
  · have hl : i < sh.length := by
      have := (List.getElem?_eq_some_iff.mp hi).1
      simp at this
      omega
    rw [List.getElem?_append_left hl] at hi
    have ha2 : M.2.1 i k = some a := by rw [← (z_al_off (M := M) hn).2.1]; exact ha
    exact (hw i ci k a hi hk ha2).app
theorem z_e_al {ρ : Nat → Nat} {cA : Nat → ClassId} {q i : Nat} (hw : z_wf sh M) {c : zC} (hi : sh[i]? = some c) : z_e (va_up ρ sh.length q) cA c (z_al M sh.length) i = z_e ρ cA c M i := by
  have hl : i < sh.length := (List.getElem?_eq_some_iff.mp hi).1
  have hn : i ≠ sh.length := Nat.ne_of_lt hl
  obtain ⟨h1, h2, h3⟩ := z_al_off (M := M) hn
  unfold z_e
  split
  next ci =>
    congr 2
    apply List.map_congr_left
    intro k hk
    have hk : k < z_N ci := List.mem_range.mp hk
    have hr : ((z_al M sh.length).2.1 i k).map (va_up ρ sh.length q) = (M.2.1 i k).map ρ := by
      rw [h2]
      cases hm : M.2.1 i k with
      | none => rfl
      | some a =>
        have ha := (hw i ci k a hi hk hm).lt
        show some (va_up ρ sh.length q a) = some (ρ a)
        simp [va_up, Nat.ne_of_lt ha]
    unfold z_f
    rw [h1, h3, hr]
  · rw [h3]
  · rw [h1]
theorem z_W_al {ρ : Nat → Nat} {cA : Nat → ClassId} {q : Nat} (hw : z_wf sh M) (c : zC) : z_W (va_up ρ sh.length q) cA (sh ++ [c]) (z_al M sh.length) = z_W ρ cA sh M ++ [(q, z_e (va_up ρ sh.length q) cA c (z_al M sh.length) sh.length)] := by
  apply List.ext_getElem?
  intro i
  by_cases hl : i < sh.length
  · have hc : sh[i]? = some sh[i] := List.getElem?_eq_getElem hl
    have hc2 : (sh ++ [c])[i]? = some sh[i] := by rw [List.getElem?_append_left hl]; exact hc
    rw [z_W_at hc2, List.getElem?_append_left (by rw [z_W_len]; exact hl), z_W_at hc, z_e_al hw hc]
    simp [va_up, Nat.ne_of_lt hl]
  · by_cases he : i = sh.length
    · subst he
      have hc2 : (sh ++ [c])[sh.length]? = some c := by simp
      rw [z_W_at hc2, List.getElem?_append_right (by rw [z_W_len]; exact Nat.le_refl _), z_W_len]
      simp [va_up]
    · rw [List.getElem?_eq_none (by rw [z_W_len]; simp; omega), List.getElem?_eq_none (by rw [List.length_append, z_W_len]; simp; omega)]
def z_nf (ty : FieldType) : Bool := match ty with
  | .float => false
  | .double => false
  | _ => true
theorem z_nfs : ((List.range 12).all fun ci => (List.range (z_N ci)).all fun k => z_nf (z_ty ci k)) = true := by decide +kernel
theorem z_born {ρ : Nat → Nat} {ty : FieldType} (h : z_nf ty = true) {n k : Nat} : z_f ρ ty (z_al M n) n k = defaultValue ty := by
  have h1 : (z_al M n).1 n k = 0 := by simp [z_al, va_up]
  have h2 : (z_al M n).2.1 n k = none := by simp [z_al, va_up]
  have h3 : (z_al M n).2.2 n k = 0 := by simp [z_al, va_up]
  cases ty <;> first | (simp [z_nf] at h; done) | (show Value.int _ = Value.int 0; rw [h1]) | (show Value.long _ = Value.long 0; rw [h3]) | (show va_rf (Option.map ρ _) = Value.null; rw [h2]; rfl)
theorem z_new {ci index n : Nat} (hci : ci < 12) (w1 : Cond.classLink y.cls index (z_C ci) ∈ z_tbl) (w2 : Cond.instantiable (z_C ci) (z_N ci) ∈ z_tbl) (w3 : Cond.initialized (z_C ci) ∈ z_tbl) (hn : sh.length = n) (hs1 : sh ++ [.inl ci] = sh1) (hM : z_al M n = M1) (hcs : cells + 1 ≤ mc ∧ slots + z_N ci ≤ ms) (hd : decode cc pc = .ok (.new index, 3)) (h : zA l y cc nL ret d mc ms n0 Post (cells + 1) (slots + z_N ci) (pc + 3) lv (.ref n :: st) sh1 M1) : zA l y cc nL ret d mc ms n0 Post cells slots pc lv st sh M := by
  subst hn hs1 hM
  intro p e Rm s m args below meth c dC dI cA A ρ0 Q C E ρ H locs ls hwf hlv hst hn1 hρ hc hs hP hD hS hl
  obtain ⟨hx, hb, hr, hml, hown, hnm, hts, hlk, hK, hA, hd1, hd2, hd3, hd4⟩ := id C
  have hnf : ∀ k, k < z_N ci → z_nf (z_ty ci k) = true := fun k hk => List.all_eq_true.mp (List.all_eq_true.mp z_nfs ci (List.mem_range.mpr hci)) k (List.mem_range.mpr hk)
  refine va_new (ci := ci) (fs := (List.range (z_N ci)).map (fun k => defaultValue (z_ty ci k))) hx hb hts (z_in hci) (z_ty ci) (z_tyok hci) hown (hts _ w1) (hts _ w2) (hts _ w3) hK hP hD hS hA (z_cl hci) (fun j hj => by simp [vp_V, hj]) (by omega) (by omega) hd (fun q H1 hP1 hD1 hS1 => ?_)
  have hρ' : ∀ i, i < sh.length → va_up ρ sh.length q i = ρ i := fun i hi => by simp [va_up, Nat.ne_of_lt hi]
  have e1 : z_W (va_up ρ sh.length q) cA (sh ++ [.inl ci]) (z_al M sh.length) = z_W ρ cA sh M ++ [(q, .inr (ci, (List.range (z_N ci)).map (fun k => defaultValue (z_ty ci k))))] := by
    rw [z_W_al hwf]
    congr 3
    show Sum.inr _ = _
    congr 2
    apply List.map_congr_left
    intro k hk
    exact z_born (hnf k (List.mem_range.mp hk))
  rw [← e1] at hP1 hD1
  have hle : sh.length ≤ (sh ++ [Sum.inl ci] : List zC).length := by simp
  have hlt : sh.length < (sh ++ [Sum.inl ci] : List zC).length := by simp
  have := h p e Rm s m args below meth c dC dI cA A ρ0 Q C E (va_up ρ sh.length q) H1 locs ls (z_wf_al hwf _) (fun v hv a ha => Nat.lt_of_lt_of_le (hlv v hv a ha) hle) (z_cn (fun a ha => by cases ha; exact hlt) (fun v hv a ha => Nat.lt_of_lt_of_le (hst v hv a ha) hle)) (Nat.le_trans hn1 hle) (fun i hi => (hρ' i (Nat.lt_of_lt_of_le hi hn1)).trans (hρ i hi)) hcs.1 hcs.2 hP1 hD1 hS1 (by rw [← z_mapcl hρ' hlv]; exact hl)
  rw [List.map_cons, ← z_mapc hρ' hst] at this
  rw [show z_v (va_up ρ sh.length q) (.ref sh.length) = .ref q from by show Value.ref (va_up ρ sh.length q sh.length) = _; simp [va_up]] at this
  exact this
theorem z_newa0 {N n : Nat} {x : Int32} (w1 : Cond.arrayClass .int ∈ z_tbl) (hx0 : ¬ x < 0) (hN : x.toNatClampNeg = N) (hby : N * componentBytes .int ≤ 536870912) (hn : sh.length = n) (hs1 : sh ++ [.inr (0, N)] = sh1) (hM : z_al M n = M1) (hcs : cells + 1 ≤ mc ∧ slots + N ≤ ms) (hd : decode cc pc = .ok (.newarray .int, 2)) (h : zA l y cc nL ret d mc ms n0 Post (cells + 1) (slots + N) (pc + 2) lv (.ref n :: st) sh1 M1) : zA l y cc nL ret d mc ms n0 Post cells slots pc lv (.int x :: st) sh M := by
  subst hn hs1 hM
  intro p e Rm s m args below meth c dC dI cA A ρ0 Q C E ρ H locs ls hwf hlv hst hn1 hρ hc hs hP hD hS hl
  obtain ⟨hx, hb, hr, hml, hown, hnm, hts, hlk, hK, hA, hd1, hd2, hd3, hd4⟩ := id C
  refine va_newa (atype := .int) (ty := .int) (a0 := (N, .inl (fun _ => 0))) hx hb (hts _ w1) rfl hK hP hD hS hA (fun _ => rfl) hx0 hN hby (by omega) (by omega) hd (fun q cB H1 hK1 hP1 hD1 hS1 => ?_)
  have hcB : cB = cA 0 := by
    have h1 : va_RA s cB .int := (hK1.2 3 (cB, .int) rfl).2
    have h2 : va_RA s (cA 0) .int := (hK.2 0 (cA 0, .int) rfl).2
    exact Option.some.inj (h1.symm.trans h2)
  subst hcB
  have hρ' : ∀ i, i < sh.length → va_up ρ sh.length q i = ρ i := fun i hi => by simp [va_up, Nat.ne_of_lt hi]
  have e1 : z_W (va_up ρ sh.length q) cA (sh ++ [.inr (0, N)]) (z_al M sh.length) = z_W ρ cA sh M ++ [(q, .inl (cA 0, N, .inl (fun _ => 0)))] := by
    rw [z_W_al hwf]
    congr 3
    show Sum.inl _ = _
    simp [z_al, va_up]
  rw [← e1] at hP1 hD1
  have hle : sh.length ≤ (sh ++ [Sum.inr (0, N)] : List zC).length := by simp
  have hlt : sh.length < (sh ++ [Sum.inr (0, N)] : List zC).length := by simp
  have hst2 : ∀ v ∈ st, z_rk sh.length v := z_tl hst
  have := h p e Rm s m args below meth c dC dI cA A ρ0 Q C E (va_up ρ sh.length q) H1 locs ls (z_wf_al hwf _) (fun v hv a ha => Nat.lt_of_lt_of_le (hlv v hv a ha) hle) (z_cn (fun a ha => by cases ha; exact hlt) (fun v hv a ha => Nat.lt_of_lt_of_le (hst2 v hv a ha) hle)) (Nat.le_trans hn1 hle) (fun i hi => (hρ' i (Nat.lt_of_lt_of_le hi hn1)).trans (hρ i hi)) hcs.1 hcs.2 hP1 hD1 hS1 (by rw [← z_mapcl hρ' hlv]; exact hl)
  rw [List.map_cons, ← z_mapc hρ' hst2] at this
  rw [show z_v (va_up ρ sh.length q) (.ref sh.length) = .ref q from by show Value.ref (va_up ρ sh.length q sh.length) = _; simp [va_up]] at this
  exact this
theorem z_newa1 {N n : Nat} {x : Int32} (w1 : Cond.arrayClass .byte ∈ z_tbl) (hx0 : ¬ x < 0) (hN : x.toNatClampNeg = N) (hby : N * componentBytes .byte ≤ 536870912) (hn : sh.length = n) (hs1 : sh ++ [.inr (1, N)] = sh1) (hM : z_al M n = M1) (hcs : cells + 1 ≤ mc ∧ slots + N ≤ ms) (hd : decode cc pc = .ok (.newarray .byte, 2)) (h : zA l y cc nL ret d mc ms n0 Post (cells + 1) (slots + N) (pc + 2) lv (.ref n :: st) sh1 M1) : zA l y cc nL ret d mc ms n0 Post cells slots pc lv (.int x :: st) sh M := by
  subst hn hs1 hM
  intro p e Rm s m args below meth c dC dI cA A ρ0 Q C E ρ H locs ls hwf hlv hst hn1 hρ hc hs hP hD hS hl
  obtain ⟨hx, hb, hr, hml, hown, hnm, hts, hlk, hK, hA, hd1, hd2, hd3, hd4⟩ := id C
  refine va_newa (atype := .byte) (ty := .byte) (a0 := (N, .inl (fun _ => 0))) hx hb (hts _ w1) rfl hK hP hD hS hA (fun _ => rfl) hx0 hN hby (by omega) (by omega) hd (fun q cB H1 hK1 hP1 hD1 hS1 => ?_)
  have hcB : cB = cA 1 := by
    have h1 : va_RA s cB .byte := (hK1.2 3 (cB, .byte) rfl).2
    have h2 : va_RA s (cA 1) .byte := (hK.2 1 (cA 1, .byte) rfl).2
    exact Option.some.inj (h1.symm.trans h2)
  subst hcB
  have hρ' : ∀ i, i < sh.length → va_up ρ sh.length q i = ρ i := fun i hi => by simp [va_up, Nat.ne_of_lt hi]
  have e1 : z_W (va_up ρ sh.length q) cA (sh ++ [.inr (1, N)]) (z_al M sh.length) = z_W ρ cA sh M ++ [(q, .inl (cA 1, N, .inl (fun _ => 0)))] := by
    rw [z_W_al hwf]
    congr 3
    show Sum.inl _ = _
    simp [z_al, va_up]
  rw [← e1] at hP1 hD1
  have hle : sh.length ≤ (sh ++ [Sum.inr (1, N)] : List zC).length := by simp
  have hlt : sh.length < (sh ++ [Sum.inr (1, N)] : List zC).length := by simp
  have hst2 : ∀ v ∈ st, z_rk sh.length v := z_tl hst
  have := h p e Rm s m args below meth c dC dI cA A ρ0 Q C E (va_up ρ sh.length q) H1 locs ls (z_wf_al hwf _) (fun v hv a ha => Nat.lt_of_lt_of_le (hlv v hv a ha) hle) (z_cn (fun a ha => by cases ha; exact hlt) (fun v hv a ha => Nat.lt_of_lt_of_le (hst2 v hv a ha) hle)) (Nat.le_trans hn1 hle) (fun i hi => (hρ' i (Nat.lt_of_lt_of_le hi hn1)).trans (hρ i hi)) hcs.1 hcs.2 hP1 hD1 hS1 (by rw [← z_mapcl hρ' hlv]; exact hl)
  rw [List.map_cons, ← z_mapc hρ' hst2] at this
  rw [show z_v (va_up ρ sh.length q) (.ref sh.length) = .ref q from by show Value.ref (va_up ρ sh.length q sh.length) = _; simp [va_up]] at this
  exact this
theorem z_newa2 {N n : Nat} {x : Int32} (w1 : Cond.arrayClass .long ∈ z_tbl) (hx0 : ¬ x < 0) (hN : x.toNatClampNeg = N) (hby : N * componentBytes .long ≤ 536870912) (hn : sh.length = n) (hs1 : sh ++ [.inr (2, N)] = sh1) (hM : z_al M n = M1) (hcs : cells + 1 ≤ mc ∧ slots + N ≤ ms) (hd : decode cc pc = .ok (.newarray .long, 2)) (h : zA l y cc nL ret d mc ms n0 Post (cells + 1) (slots + N) (pc + 2) lv (.ref n :: st) sh1 M1) : zA l y cc nL ret d mc ms n0 Post cells slots pc lv (.int x :: st) sh M := by
  subst hn hs1 hM
  intro p e Rm s m args below meth c dC dI cA A ρ0 Q C E ρ H locs ls hwf hlv hst hn1 hρ hc hs hP hD hS hl
  obtain ⟨hx, hb, hr, hml, hown, hnm, hts, hlk, hK, hA, hd1, hd2, hd3, hd4⟩ := id C
  refine va_newa (atype := .long) (ty := .long) (a0 := (N, .inr (.inl (fun _ => 0)))) hx hb (hts _ w1) rfl hK hP hD hS hA (fun _ => rfl) hx0 hN hby (by omega) (by omega) hd (fun q cB H1 hK1 hP1 hD1 hS1 => ?_)
  have hcB : cB = cA 2 := by
    have h1 : va_RA s cB .long := (hK1.2 3 (cB, .long) rfl).2
    have h2 : va_RA s (cA 2) .long := (hK.2 2 (cA 2, .long) rfl).2
    exact Option.some.inj (h1.symm.trans h2)
  subst hcB
  have hρ' : ∀ i, i < sh.length → va_up ρ sh.length q i = ρ i := fun i hi => by simp [va_up, Nat.ne_of_lt hi]
  have e1 : z_W (va_up ρ sh.length q) cA (sh ++ [.inr (2, N)]) (z_al M sh.length) = z_W ρ cA sh M ++ [(q, .inl (cA 2, N, .inr (.inl (fun _ => 0))))] := by
    rw [z_W_al hwf]
    congr 3
    show Sum.inl _ = _
    simp [z_al, va_up]
  rw [← e1] at hP1 hD1
  have hle : sh.length ≤ (sh ++ [Sum.inr (2, N)] : List zC).length := by simp
  have hlt : sh.length < (sh ++ [Sum.inr (2, N)] : List zC).length := by simp
  have hst2 : ∀ v ∈ st, z_rk sh.length v := z_tl hst
  have := h p e Rm s m args below meth c dC dI cA A ρ0 Q C E (va_up ρ sh.length q) H1 locs ls (z_wf_al hwf _) (fun v hv a ha => Nat.lt_of_lt_of_le (hlv v hv a ha) hle) (z_cn (fun a ha => by cases ha; exact hlt) (fun v hv a ha => Nat.lt_of_lt_of_le (hst2 v hv a ha) hle)) (Nat.le_trans hn1 hle) (fun i hi => (hρ' i (Nat.lt_of_lt_of_le hi hn1)).trans (hρ i hi)) hcs.1 hcs.2 hP1 hD1 hS1 (by rw [← z_mapcl hρ' hlv]; exact hl)
  rw [List.map_cons, ← z_mapc hρ' hst2] at this
  rw [show z_v (va_up ρ sh.length q) (.ref sh.length) = .ref q from by show Value.ref (va_up ρ sh.length q sh.length) = _; simp [va_up]] at this
  exact this
end ZN
