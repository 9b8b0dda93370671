def z_max (x y : Int32) : Int32 := if x < y then y else x
def z_min (x y : Int32) : Int32 := if y < x then y else x
section ZMM
variable {l : Launch} {y : MethodName} {cc : ByteArray} {nL : Nat} {ret : Option FieldType} {d mc ms n0 : Nat} {Post : zP} {cells slots pc : Nat} {lv lv' : List (Nat × Value)} {st : List Value} {sh : List zC} {M M1 : zM}
theorem z_catm (ρ : Nat → Nat) (h : (st.map fun v => v.category).sum ≤ 8) : ((st.map (z_v ρ)).map fun v => v.category).sum ≤ 8 := by
  rw [List.map_map, show ((fun v : Value => v.category) ∘ z_v ρ) = (fun v => v.category) from funext (z_v_cat ρ)]
  exact h
theorem z_mmax {idx : Nat} {a b : Int32} (h1 : Cond.methodLink y.cls idx Lib.Math.max.name ∈ z_tbl) (h2 : Cond.static Lib.Math.max.name ∈ z_tbl) (h3 : Cond.initialized "java/lang/Math" ∈ z_tbl) (h4 : Cond.code Lib.Math.max.name Lib.Math.max.code 2 (some .int) ∈ z_tbl) (hdp : 1 ≤ d) (hrs : (st.map fun v => v.category).sum ≤ 8) (hd : decode cc pc = .ok (.invokestatic idx, 3)) (h : zA l y cc nL ret d mc ms n0 Post cells slots (pc + 3) lv (.int (z_max a b) :: st) sh M) : zA l y cc nL ret d mc ms n0 Post cells slots pc lv (.int b :: .int a :: st) sh M := by
  intro p e Rm s m args below meth c dC dI cA A ρ0 Q C E ρ H locs ls hwf hlv hst hn1 hρ hc hs hP hD hS hl
  obtain ⟨hx, hb, hr, hml, hown, hnm, hts, hlk, hK, hA, hd1, hd2, hd3, hd4⟩ := id C
  refine va_mmax hx hb (by rw [hml]; exact hl.1.symm) hown (hts _ h1) (hts _ h2) (hts _ h3) (hts _ h4) (by omega) ?_ (by omega) (by omega) hd ?_
  · have := z_catm ρ hrs
    omega
  · exact h p e Rm s m args below meth c dC dI cA A ρ0 Q C E ρ H locs ls hwf hlv (z_cn z_rki (z_tl (z_tl hst))) hn1 hρ hc hs hP hD hS hl
theorem z_mmin {idx : Nat} {a b : Int32} (h1 : Cond.methodLink y.cls idx Lib.Math.min.name ∈ z_tbl) (h2 : Cond.static Lib.Math.min.name ∈ z_tbl) (h3 : Cond.initialized "java/lang/Math" ∈ z_tbl) (h4 : Cond.code Lib.Math.min.name Lib.Math.min.code 2 (some .int) ∈ z_tbl) (hdp : 1 ≤ d) (hrs : (st.map fun v => v.category).sum ≤ 8) (hd : decode cc pc = .ok (.invokestatic idx, 3)) (h : zA l y cc nL ret d mc ms n0 Post cells slots (pc + 3) lv (.int (z_min a b) :: st) sh M) : zA l y cc nL ret d mc ms n0 Post cells slots pc lv (.int b :: .int a :: st) sh M := by
  intro p e Rm s m args below meth c dC dI cA A ρ0 Q C E ρ H locs ls hwf hlv hst hn1 hρ hc hs hP hD hS hl
  obtain ⟨hx, hb, hr, hml, hown, hnm, hts, hlk, hK, hA, hd1, hd2, hd3, hd4⟩ := id C
  refine va_mmin hx hb (by rw [hml]; exact hl.1.symm) hown (hts _ h1) (hts _ h2) (hts _ h3) (hts _ h4) (by omega) ?_ (by omega) (by omega) hd ?_
  · have := z_catm ρ hrs
    omega
  · exact h p e Rm s m args below meth c dC dI cA A ρ0 Q C E ρ H locs ls hwf hlv (z_cn z_rki (z_tl (z_tl hst))) hn1 hρ hc hs hP hD hS hl
end ZMM
theorem mm_X10_19 : Cond.methodLink RX10 19 Lib.Math.min.name ∈ z_tbl := z_mem (List.mem_of_getElem? (i := 486) (by decide +kernel)) (by decide +kernel)
theorem mm_X4_64 : Cond.methodLink RX4 64 Lib.Math.min.name ∈ z_tbl := z_mem (List.mem_of_getElem? (i := 692) (by decide +kernel)) (by decide +kernel)
theorem mm_X4_70 : Cond.methodLink RX4 70 Lib.Math.max.name ∈ z_tbl := z_mem (List.mem_of_getElem? (i := 693) (by decide +kernel)) (by decide +kernel)
theorem mm_X0_61 : Cond.methodLink RX0 61 Lib.Math.min.name ∈ z_tbl := z_mem (List.mem_of_getElem? (i := 696) (by decide +kernel)) (by decide +kernel)
theorem mm_X11_317 : Cond.methodLink RX11 317 Lib.Math.min.name ∈ z_tbl := z_mem (List.mem_of_getElem? (i := 714) (by decide +kernel)) (by decide +kernel)
theorem mm_X11_216 : Cond.methodLink RX11 216 Lib.Math.max.name ∈ z_tbl := z_mem (List.mem_of_getElem? (i := 715) (by decide +kernel)) (by decide +kernel)
theorem mm_X8_76 : Cond.methodLink RX8 76 Lib.Math.min.name ∈ z_tbl := z_mem (List.mem_of_getElem? (i := 722) (by decide +kernel)) (by decide +kernel)
theorem mm_X2_52 : Cond.methodLink RX2 52 Lib.Math.min.name ∈ z_tbl := z_mem (List.mem_of_getElem? (i := 822) (by decide +kernel)) (by decide +kernel)
theorem mm_X1_24 : Cond.methodLink RX1 24 Lib.Math.min.name ∈ z_tbl := z_mem (List.mem_of_getElem? (i := 867) (by decide +kernel)) (by decide +kernel)
theorem mm_X7_48 : Cond.methodLink RX7 48 Lib.Math.min.name ∈ z_tbl := z_mem (List.mem_of_getElem? (i := 910) (by decide +kernel)) (by decide +kernel)
theorem mm_X3_15 : Cond.methodLink RX3 15 Lib.Math.min.name ∈ z_tbl := z_mem (List.mem_of_getElem? (i := 964) (by decide +kernel)) (by decide +kernel)
theorem mm_smax : Cond.static Lib.Math.max.name ∈ z_tbl := z_mem (List.mem_of_getElem? (i := 694) (by decide +kernel)) (by decide +kernel)
theorem mm_cmax : Cond.code Lib.Math.max.name Lib.Math.max.code 2 (some .int) ∈ z_tbl := z_mem (List.mem_of_getElem? (i := 695) (by decide +kernel)) (by decide +kernel)
theorem mm_smin : Cond.static Lib.Math.min.name ∈ z_tbl := z_mem (List.mem_of_getElem? (i := 487) (by decide +kernel)) (by decide +kernel)
theorem mm_cmin : Cond.code Lib.Math.min.name Lib.Math.min.code 2 (some .int) ∈ z_tbl := z_mem (List.mem_of_getElem? (i := 488) (by decide +kernel)) (by decide +kernel)
theorem mm_ini : Cond.initialized "java/lang/Math" ∈ z_tbl := z_mem (List.mem_of_getElem? (i := 107) (by decide +kernel)) (by decide +kernel)
theorem z_end {α β : Type} {a c : α} {b d : β} (h : some (a, b) = some (c, d)) : a = c ∧ b = d := ⟨congrArg Prod.fst (Option.some.inj h), congrArg Prod.snd (Option.some.inj h)⟩
