section ZR
variable {l : Launch} {y : MethodName} {cc : ByteArray} {nL : Nat} {ret : Option FieldType} {d mc ms n0 : Nat} {Post : zP} {cells slots pc : Nat} {lv lv' : List (Nat × Value)} {st : List Value} {sh : List zC} {M M1 : zM}
theorem z_rki {n : Nat} {x : Int32} : z_rk n (.int x) := fun a h => by cases h
theorem z_rkl {n : Nat} {x : Int64} : z_rk n (.long x) := fun a h => by cases h
theorem z_tl {P : Value → Prop} {a : Value} {st : List Value} (h : ∀ v ∈ a :: st, P v) : ∀ v ∈ st, P v := fun v hv => h v (List.mem_cons_of_mem _ hv)
theorem z_cn {P : Value → Prop} {a : Value} {st : List Value} (ha : P a) (h : ∀ v ∈ st, P v) : ∀ v ∈ a :: st, P v := List.forall_mem_cons.mpr ⟨ha, h⟩
theorem z_hd {P : Value → Prop} {a : Value} {st : List Value} (h : ∀ v ∈ a :: st, P v) : P a := h a List.mem_cons_self
def zg (lv : List (Nat × Value)) (i : Nat) : Option Value := match lv with
  | [] => none
  | q :: r => if q.1 = i then some q.2 else zg r i
theorem zg_in : ∀ {lv : List (Nat × Value)} {i : Nat} {v : Value}, zg lv i = some v → (i, v) ∈ lv
  | [], i, v, h => by simp [zg] at h
  | q :: r, i, v, h => by
    unfold zg at h
    split at h
    next e => cases h; cases e; exact List.mem_cons_self
    next e => exact List.mem_cons_of_mem _ (zg_in h)
theorem zg_at {lv : List (Nat × Value)} {i : Nat} {v : Value} {ρ : Nat → Nat} {ls : Array Slot} {nL : Nat} (h : zg lv i = some v) (hl : lv_has ls nL (lv.map (fun q => (q.1, z_v ρ q.2)))) : ls[i]? = some (.val (z_v ρ v)) := hl.2.2 (i, z_v ρ v) (List.mem_map.mpr ⟨(i, v), zg_in h, rfl⟩)
def zs (lv : List (Nat × Value)) (i : Nat) (v : Value) : List (Nat × Value) := (i, v) :: lv.filter (fun q => !(q.1 == i) && !(q.1 + 1 == i && q.2.category == 2))
def zs2 (lv : List (Nat × Value)) (i : Nat) (v : Value) : List (Nat × Value) := (i, v) :: lv.filter (fun q => !(q.1 == i) && (!(q.1 == i + 1) && !(q.1 + 1 == i && q.2.category == 2)))
theorem zs_map (ρ : Nat → Nat) (lv : List (Nat × Value)) (i : Nat) (v : Value) : (i, z_v ρ v) :: (lv.map (fun q => (q.1, z_v ρ q.2))).filter (fun q => !(q.1 == i) && !(q.1 + 1 == i && q.2.category == 2)) = (zs lv i v).map (fun q => (q.1, z_v ρ q.2)) := by
  simp only [zs, List.map_cons, List.filter_map]
  congr 2
  apply List.filter_congr
  intro q _
  simp only [Function.comp, z_v_cat]
theorem zs2_map (ρ : Nat → Nat) (lv : List (Nat × Value)) (i : Nat) (v : Value) : (i, z_v ρ v) :: (lv.map (fun q => (q.1, z_v ρ q.2))).filter (fun q => !(q.1 == i) && (!(q.1 == i + 1) && !(q.1 + 1 == i && q.2.category == 2))) = (zs2 lv i v).map (fun q => (q.1, z_v ρ q.2)) := by
  simp only [zs2, List.map_cons, List.filter_map]
  congr 2
  apply List.filter_congr
  intro q _
  simp only [Function.comp, z_v_cat]
theorem zs_rk {n : Nat} {lv : List (Nat × Value)} {i : Nat} {v : Value} (h : ∀ q ∈ lv, z_rk n q.2) (hv : z_rk n v) : ∀ q ∈ zs lv i v, z_rk n q.2 := by
  intro q hq
  rcases List.mem_cons.mp hq with rfl | hq
  · exact hv
  · exact h q (List.mem_filter.mp hq).1
theorem zs2_rk {n : Nat} {lv : List (Nat × Value)} {i : Nat} {v : Value} (h : ∀ q ∈ lv, z_rk n q.2) (hv : z_rk n v) : ∀ q ∈ zs2 lv i v, z_rk n q.2 := by
  intro q hq
  rcases List.mem_cons.mp hq with rfl | hq
  · exact hv
  · exact h q (List.mem_filter.mp hq).1

theorem zA.go {pc2 : Nat} {st2 : List Value} (h : zA l y cc nL ret d mc ms n0 Post cells slots (pc2) lv (st2) sh M) (hr : (∀ v ∈ st, z_rk sh.length v) → (∀ q ∈ lv, z_rk sh.length q.2) → ∀ v ∈ st2, z_rk sh.length v)
    (f : ∀ (p : Program) (e : Env) (Rm : Room) (s : State) (m : MethodId) (args : Array Value) (below : List Frame) (meth : Method) (c : Code) (H : Heap) (locs : List Loc) (Q : State → Prop) (ρ : Nat → Nat) (ls : Array Slot), p.tables.exec = Jvm.exec → c.code = cc → s.vm.findClass y.cls = some m.cls → (∀ w ∈ z_tbl, w.before args s = true) → lv_has ls nL (lv.map (fun q => (q.1, z_v ρ q.2))) → W p l e Rm s m args below meth c H locs cells slots Q (F0 m pc2 ls (st2.map (z_v ρ))) → W p l e Rm s m args below meth c H locs cells slots Q (F0 m pc ls (st.map (z_v ρ)))) :
    zA l y cc nL ret d mc ms n0 Post cells slots (pc) lv (st) sh M := by
  intro p e Rm s m args below meth c dC dI cA A ρ0 Q C E ρ H locs ls hwf hlv hst hn hρ hc hs hP hD hS hl
  exact f p e Rm s m args below meth c H locs Q ρ ls C.1 C.2.1 C.2.2.2.2.1 C.2.2.2.2.2.2.1 hl (h p e Rm s m args below meth c dC dI cA A ρ0 Q C E ρ H locs ls hwf hlv (hr hst hlv) hn hρ hc hs hP hD hS hl)
theorem zA.pick (lv2 : List (Nat × Value)) (ks : List Nat) (hk : lv_pick lv ks = lv2) (h : zA l y cc nL ret d mc ms n0 Post cells slots (pc) lv2 (st) sh M) : zA l y cc nL ret d mc ms n0 Post cells slots (pc) lv (st) sh M := by
  have hin : ∀ q ∈ lv2, q ∈ lv := by
    intro q hq
    rw [← hk] at hq
    obtain ⟨k, -, hk⟩ := List.mem_filterMap.mp hq
    exact List.mem_of_getElem? hk
  intro p e Rm s m args below meth c dC dI cA A ρ0 Q C E ρ H locs ls hwf hlv hst hn hρ hc hs hP hD hS hl
  refine h p e Rm s m args below meth c dC dI cA A ρ0 Q C E ρ H locs ls hwf (fun q hq => hlv q (hin q hq)) hst hn hρ hc hs hP hD hS ⟨hl.1, hl.2.1, fun q hq => ?_⟩
  obtain ⟨q0, h1, rfl⟩ := List.mem_map.mp hq
  exact hl.2.2 _ (List.mem_map.mpr ⟨q0, hin q0 h1, rfl⟩)
theorem zA.le (lv2 : List (Nat × Value)) (hin : ∀ q ∈ lv2, q ∈ lv) (h : zA l y cc nL ret d mc ms n0 Post cells slots (pc) lv2 (st) sh M) : zA l y cc nL ret d mc ms n0 Post cells slots (pc) lv (st) sh M := by
  intro p e Rm s m args below meth c dC dI cA A ρ0 Q C E ρ H locs ls hwf hlv hst hn hρ hc hs hP hD hS hl
  refine h p e Rm s m args below meth c dC dI cA A ρ0 Q C E ρ H locs ls hwf (fun q hq => hlv q (hin q hq)) hst hn hρ hc hs hP hD hS ⟨hl.1, hl.2.1, fun q hq => ?_⟩
  obtain ⟨q0, h1, rfl⟩ := List.mem_map.mp hq
  exact hl.2.2 _ (List.mem_map.mpr ⟨q0, hin q0 h1, rfl⟩)

theorem z_iconst {n : Int} {v : Int32} (hd : decode cc pc = .ok (.iconst n, 1)) (hv : Int32.ofInt n = v) (h : zA l y cc nL ret d mc ms n0 Post cells slots (pc + 1) lv (.int v :: st) sh M) : zA l y cc nL ret d mc ms n0 Post cells slots (pc) lv (st) sh M :=
  zA.go h (fun hs hv => z_cn z_rki hs) (fun _ _ _ _ _ _ _ _ _ _ _ _ _ _ hx hb ho ht hl k => lv_iconst hx hb hd hv k)
theorem z_bipush {n : Int} {v : Int32} (hd : decode cc pc = .ok (.bipush n, 2)) (hv : (Int8.ofInt n).toInt32 = v) (h : zA l y cc nL ret d mc ms n0 Post cells slots (pc + 2) lv (.int v :: st) sh M) : zA l y cc nL ret d mc ms n0 Post cells slots (pc) lv (st) sh M :=
  zA.go h (fun hs hv => z_cn z_rki hs) (fun _ _ _ _ _ _ _ _ _ _ _ _ _ _ hx hb ho ht hl k => lv_bipush hx hb hd hv k)
theorem z_sipush {n : Int} {v : Int32} (hd : decode cc pc = .ok (.sipush n, 3)) (hv : (Int16.ofInt n).toInt32 = v) (h : zA l y cc nL ret d mc ms n0 Post cells slots (pc + 3) lv (.int v :: st) sh M) : zA l y cc nL ret d mc ms n0 Post cells slots (pc) lv (st) sh M :=
  zA.go h (fun hs hv => z_cn z_rki hs) (fun _ _ _ _ _ _ _ _ _ _ _ _ _ _ hx hb ho ht hl k => lv_sipush hx hb hd hv k)
theorem z_lconst {n : Fin 2} {v : Int64} (hd : decode cc pc = .ok (.lconst n, 1)) (hv : Int64.ofNat (n : Nat) = v) (h : zA l y cc nL ret d mc ms n0 Post cells slots (pc + 1) lv (.long v :: st) sh M) : zA l y cc nL ret d mc ms n0 Post cells slots (pc) lv (st) sh M :=
  zA.go h (fun hs hv => z_cn z_rkl hs) (fun _ _ _ _ _ _ _ _ _ _ _ _ _ _ hx hb ho ht hl k => lv_lconst hx hb hd hv k)
theorem z_ldc {n : Nat} {v : Int32} (hd : decode cc pc = .ok (.ldc n, 2)) (hw : Cond.constant y.cls n v ∈ z_tbl) (h : zA l y cc nL ret d mc ms n0 Post cells slots (pc + 2) lv (.int v :: st) sh M) : zA l y cc nL ret d mc ms n0 Post cells slots (pc) lv (st) sh M :=
  zA.go h (fun hs hv => z_cn z_rki hs) (fun _ _ _ _ _ _ _ _ _ _ _ _ _ _ hx hb ho ht hl k => lv_ldc hx hb ho (ht _ hw) hd k)
theorem z_ldcw {n : Nat} {v : Int32} (hd : decode cc pc = .ok (.ldc_w n, 3)) (hw : Cond.constant y.cls n v ∈ z_tbl) (h : zA l y cc nL ret d mc ms n0 Post cells slots (pc + 3) lv (.int v :: st) sh M) : zA l y cc nL ret d mc ms n0 Post cells slots (pc) lv (st) sh M :=
  zA.go h (fun hs hv => z_cn z_rki hs) (fun _ _ _ _ _ _ _ _ _ _ _ _ _ _ hx hb ho ht hl k => lv_ldcw hx hb ho (ht _ hw) hd k)
theorem z_ldc2 {n : Nat} {v : Int64} (hd : decode cc pc = .ok (.ldc2_w n, 3)) (hw : Cond.constantLong y.cls n v ∈ z_tbl) (h : zA l y cc nL ret d mc ms n0 Post cells slots (pc + 3) lv (.long v :: st) sh M) : zA l y cc nL ret d mc ms n0 Post cells slots (pc) lv (st) sh M :=
  zA.go h (fun hs hv => z_cn z_rkl hs) (fun _ _ _ _ _ _ _ _ _ _ _ _ _ _ hx hb ho ht hl k => lv_ldc2 hx hb ho (ht _ hw) hd k)
theorem z_iload_n {k : Fin 4} {i : Nat} {x : Int32} (hd : decode cc pc = .ok (.iload_n k, 1)) (hi : (k : Nat) = i) (hg : zg lv i = some (.int x)) (h : zA l y cc nL ret d mc ms n0 Post cells slots (pc + 1) lv (.int x :: st) sh M) : zA l y cc nL ret d mc ms n0 Post cells slots (pc) lv (st) sh M :=
  zA.go h (fun hs hv => z_cn z_rki hs) (fun _ _ _ _ _ _ _ _ _ _ _ _ _ _ hx hb ho ht hl k => lv_iload_n hx hb hd hi (zg_at hg hl) k)
theorem z_iload {i : Nat} {x : Int32} (hd : decode cc pc = .ok (.iload i, 2)) (hg : zg lv i = some (.int x)) (h : zA l y cc nL ret d mc ms n0 Post cells slots (pc + 2) lv (.int x :: st) sh M) : zA l y cc nL ret d mc ms n0 Post cells slots (pc) lv (st) sh M :=
  zA.go h (fun hs hv => z_cn z_rki hs) (fun _ _ _ _ _ _ _ _ _ _ _ _ _ _ hx hb ho ht hl k => lv_iload hx hb hd (zg_at hg hl) k)
theorem z_lload_n {k : Fin 4} {i : Nat} {x : Int64} (hd : decode cc pc = .ok (.lload_n k, 1)) (hi : (k : Nat) = i) (hg : zg lv i = some (.long x)) (h : zA l y cc nL ret d mc ms n0 Post cells slots (pc + 1) lv (.long x :: st) sh M) : zA l y cc nL ret d mc ms n0 Post cells slots (pc) lv (st) sh M :=
  zA.go h (fun hs hv => z_cn z_rkl hs) (fun _ _ _ _ _ _ _ _ _ _ _ _ _ _ hx hb ho ht hl k => lv_lload_n hx hb hd hi (zg_at hg hl) k)
theorem z_lload {i : Nat} {x : Int64} (hd : decode cc pc = .ok (.lload i, 2)) (hg : zg lv i = some (.long x)) (h : zA l y cc nL ret d mc ms n0 Post cells slots (pc + 2) lv (.long x :: st) sh M) : zA l y cc nL ret d mc ms n0 Post cells slots (pc) lv (st) sh M :=
  zA.go h (fun hs hv => z_cn z_rkl hs) (fun _ _ _ _ _ _ _ _ _ _ _ _ _ _ hx hb ho ht hl k => lv_lload hx hb hd (zg_at hg hl) k)
theorem z_aload_n {k : Fin 4} {i : Nat} {x : Nat} (hd : decode cc pc = .ok (.aload_n k, 1)) (hi : (k : Nat) = i) (hg : zg lv i = some (.ref x)) (h : zA l y cc nL ret d mc ms n0 Post cells slots (pc + 1) lv (.ref x :: st) sh M) : zA l y cc nL ret d mc ms n0 Post cells slots (pc) lv (st) sh M :=
  zA.go h (fun hs hv => z_cn (hv _ (zg_in hg)) hs) (fun _ _ _ _ _ _ _ _ _ _ _ _ _ _ hx hb ho ht hl k => lv_aload_n hx hb hd hi (zg_at hg hl) k)
theorem z_iadd {a b : Int32} (hd : decode cc pc = .ok (.iadd, 1)) (h : zA l y cc nL ret d mc ms n0 Post cells slots (pc + 1) lv (.int (a + b) :: st) sh M) : zA l y cc nL ret d mc ms n0 Post cells slots (pc) lv (.int b :: .int a :: st) sh M :=
  zA.go h (fun hs _ => z_cn z_rki (z_tl (z_tl hs))) (fun _ _ _ _ _ _ _ _ _ _ _ _ _ _ hx hb ho ht hl k => lv_iadd hx hb hd  k)
theorem z_isub {a b : Int32} (hd : decode cc pc = .ok (.isub, 1)) (h : zA l y cc nL ret d mc ms n0 Post cells slots (pc + 1) lv (.int (a - b) :: st) sh M) : zA l y cc nL ret d mc ms n0 Post cells slots (pc) lv (.int b :: .int a :: st) sh M :=
  zA.go h (fun hs _ => z_cn z_rki (z_tl (z_tl hs))) (fun _ _ _ _ _ _ _ _ _ _ _ _ _ _ hx hb ho ht hl k => lv_isub hx hb hd  k)
theorem z_imul {a b : Int32} (hd : decode cc pc = .ok (.imul, 1)) (h : zA l y cc nL ret d mc ms n0 Post cells slots (pc + 1) lv (.int (a * b) :: st) sh M) : zA l y cc nL ret d mc ms n0 Post cells slots (pc) lv (.int b :: .int a :: st) sh M :=
  zA.go h (fun hs _ => z_cn z_rki (z_tl (z_tl hs))) (fun _ _ _ _ _ _ _ _ _ _ _ _ _ _ hx hb ho ht hl k => lv_imul hx hb hd  k)
theorem z_iand {a b : Int32} (hd : decode cc pc = .ok (.iand, 1)) (h : zA l y cc nL ret d mc ms n0 Post cells slots (pc + 1) lv (.int (a &&& b) :: st) sh M) : zA l y cc nL ret d mc ms n0 Post cells slots (pc) lv (.int b :: .int a :: st) sh M :=
  zA.go h (fun hs _ => z_cn z_rki (z_tl (z_tl hs))) (fun _ _ _ _ _ _ _ _ _ _ _ _ _ _ hx hb ho ht hl k => lv_iand hx hb hd  k)
theorem z_ior {a b : Int32} (hd : decode cc pc = .ok (.ior, 1)) (h : zA l y cc nL ret d mc ms n0 Post cells slots (pc + 1) lv (.int (a ||| b) :: st) sh M) : zA l y cc nL ret d mc ms n0 Post cells slots (pc) lv (.int b :: .int a :: st) sh M :=
  zA.go h (fun hs _ => z_cn z_rki (z_tl (z_tl hs))) (fun _ _ _ _ _ _ _ _ _ _ _ _ _ _ hx hb ho ht hl k => lv_ior hx hb hd  k)
theorem z_ixor {a b : Int32} (hd : decode cc pc = .ok (.ixor, 1)) (h : zA l y cc nL ret d mc ms n0 Post cells slots (pc + 1) lv (.int (a ^^^ b) :: st) sh M) : zA l y cc nL ret d mc ms n0 Post cells slots (pc) lv (.int b :: .int a :: st) sh M :=
  zA.go h (fun hs _ => z_cn z_rki (z_tl (z_tl hs))) (fun _ _ _ _ _ _ _ _ _ _ _ _ _ _ hx hb ho ht hl k => lv_ixor hx hb hd  k)
theorem z_ishl {a b : Int32} (hd : decode cc pc = .ok (.ishl, 1)) (h : zA l y cc nL ret d mc ms n0 Post cells slots (pc + 1) lv (.int (a <<< (b &&& 31)) :: st) sh M) : zA l y cc nL ret d mc ms n0 Post cells slots (pc) lv (.int b :: .int a :: st) sh M :=
  zA.go h (fun hs _ => z_cn z_rki (z_tl (z_tl hs))) (fun _ _ _ _ _ _ _ _ _ _ _ _ _ _ hx hb ho ht hl k => lv_ishl hx hb hd  k)
theorem z_ishr {a b : Int32} (hd : decode cc pc = .ok (.ishr, 1)) (h : zA l y cc nL ret d mc ms n0 Post cells slots (pc + 1) lv (.int (a >>> (b &&& 31)) :: st) sh M) : zA l y cc nL ret d mc ms n0 Post cells slots (pc) lv (.int b :: .int a :: st) sh M :=
  zA.go h (fun hs _ => z_cn z_rki (z_tl (z_tl hs))) (fun _ _ _ _ _ _ _ _ _ _ _ _ _ _ hx hb ho ht hl k => lv_ishr hx hb hd  k)
theorem z_idiv {a b : Int32} (hd : decode cc pc = .ok (.idiv, 1)) (hne : ¬ b = 0) (h : zA l y cc nL ret d mc ms n0 Post cells slots (pc + 1) lv (.int (a / b) :: st) sh M) : zA l y cc nL ret d mc ms n0 Post cells slots (pc) lv (.int b :: .int a :: st) sh M :=
  zA.go h (fun hs _ => z_cn z_rki (z_tl (z_tl hs))) (fun _ _ _ _ _ _ _ _ _ _ _ _ _ _ hx hb ho ht hl k => lv_idiv hx hb hd hne k)
theorem z_irem {a b : Int32} (hd : decode cc pc = .ok (.irem, 1)) (hne : ¬ b = 0) (h : zA l y cc nL ret d mc ms n0 Post cells slots (pc + 1) lv (.int (a - a / b * b) :: st) sh M) : zA l y cc nL ret d mc ms n0 Post cells slots (pc) lv (.int b :: .int a :: st) sh M :=
  zA.go h (fun hs _ => z_cn z_rki (z_tl (z_tl hs))) (fun _ _ _ _ _ _ _ _ _ _ _ _ _ _ hx hb ho ht hl k => lv_irem hx hb hd hne k)
theorem z_iushr {a b : Int32} (hd : decode cc pc = .ok (.iushr, 1)) (h : zA l y cc nL ret d mc ms n0 Post cells slots (pc + 1) lv (.int ((a.toUInt32 >>> (b.toUInt32 &&& Int32.toUInt32 31)).toInt32) :: st) sh M) : zA l y cc nL ret d mc ms n0 Post cells slots (pc) lv (.int b :: .int a :: st) sh M :=
  zA.go h (fun hs _ => z_cn z_rki (z_tl (z_tl hs))) (fun _ _ _ _ _ _ _ _ _ _ _ _ _ _ hx hb ho ht hl k => lv_iushr hx hb hd rfl k)
theorem z_ladd {a b : Int64} (hd : decode cc pc = .ok (.ladd, 1)) (h : zA l y cc nL ret d mc ms n0 Post cells slots (pc + 1) lv (.long (a + b) :: st) sh M) : zA l y cc nL ret d mc ms n0 Post cells slots (pc) lv (.long b :: .long a :: st) sh M :=
  zA.go h (fun hs _ => z_cn z_rkl (z_tl (z_tl hs))) (fun _ _ _ _ _ _ _ _ _ _ _ _ _ _ hx hb ho ht hl k => lv_ladd hx hb hd  k)
theorem z_lmul {a b : Int64} (hd : decode cc pc = .ok (.lmul, 1)) (h : zA l y cc nL ret d mc ms n0 Post cells slots (pc + 1) lv (.long (a * b) :: st) sh M) : zA l y cc nL ret d mc ms n0 Post cells slots (pc) lv (.long b :: .long a :: st) sh M :=
  zA.go h (fun hs _ => z_cn z_rkl (z_tl (z_tl hs))) (fun _ _ _ _ _ _ _ _ _ _ _ _ _ _ hx hb ho ht hl k => lv_lmul hx hb hd  k)
theorem z_ldiv {a b : Int64} (hd : decode cc pc = .ok (.ldiv, 1)) (hne : ¬ b = 0) (h : zA l y cc nL ret d mc ms n0 Post cells slots (pc + 1) lv (.long (a / b) :: st) sh M) : zA l y cc nL ret d mc ms n0 Post cells slots (pc) lv (.long b :: .long a :: st) sh M :=
  zA.go h (fun hs _ => z_cn z_rkl (z_tl (z_tl hs))) (fun _ _ _ _ _ _ _ _ _ _ _ _ _ _ hx hb ho ht hl k => lv_ldiv hx hb hd hne k)
theorem z_lrem {a b : Int64} (hd : decode cc pc = .ok (.lrem, 1)) (hne : ¬ b = 0) (h : zA l y cc nL ret d mc ms n0 Post cells slots (pc + 1) lv (.long (a - a / b * b) :: st) sh M) : zA l y cc nL ret d mc ms n0 Post cells slots (pc) lv (.long b :: .long a :: st) sh M :=
  zA.go h (fun hs _ => z_cn z_rkl (z_tl (z_tl hs))) (fun _ _ _ _ _ _ _ _ _ _ _ _ _ _ hx hb ho ht hl k => lv_lrem hx hb hd hne k)
theorem z_lshl {a : Int64} {b : Int32} (hd : decode cc pc = .ok (.lshl, 1)) (h : zA l y cc nL ret d mc ms n0 Post cells slots (pc + 1) lv (.long (a <<< (b.toInt64 &&& 63)) :: st) sh M) : zA l y cc nL ret d mc ms n0 Post cells slots (pc) lv (.int b :: .long a :: st) sh M :=
  zA.go h (fun hs _ => z_cn z_rkl (z_tl (z_tl hs))) (fun _ _ _ _ _ _ _ _ _ _ _ _ _ _ hx hb ho ht hl k => lv_lshl hx hb hd rfl k)
theorem z_lcmp {a b : Int64} (hd : decode cc pc = .ok (.lcmp, 1)) (h : zA l y cc nL ret d mc ms n0 Post cells slots (pc + 1) lv (.int (lg_cmp a b) :: st) sh M) : zA l y cc nL ret d mc ms n0 Post cells slots (pc) lv (.long b :: .long a :: st) sh M :=
  zA.go h (fun hs _ => z_cn z_rki (z_tl (z_tl hs))) (fun _ _ _ _ _ _ _ _ _ _ _ _ _ _ hx hb ho ht hl k => W.lcmp hx hb hd k)
theorem z_l2i {a : Int64} (hd : decode cc pc = .ok (.l2i, 1)) (h : zA l y cc nL ret d mc ms n0 Post cells slots (pc + 1) lv (.int a.toInt32 :: st) sh M) : zA l y cc nL ret d mc ms n0 Post cells slots (pc) lv (.long a :: st) sh M :=
  zA.go h (fun hs _ => z_cn z_rki (z_tl hs)) (fun _ _ _ _ _ _ _ _ _ _ _ _ _ _ hx hb ho ht hl k => lv_l2i hx hb hd rfl k)
theorem z_i2l {a : Int32} (hd : decode cc pc = .ok (.i2l, 1)) (h : zA l y cc nL ret d mc ms n0 Post cells slots (pc + 1) lv (.long a.toInt64 :: st) sh M) : zA l y cc nL ret d mc ms n0 Post cells slots (pc) lv (.int a :: st) sh M :=
  zA.go h (fun hs _ => z_cn z_rkl (z_tl hs)) (fun _ _ _ _ _ _ _ _ _ _ _ _ _ _ hx hb ho ht hl k => lv_i2l hx hb hd rfl k)
theorem z_i2b {a : Int32} (hd : decode cc pc = .ok (.i2b, 1)) (h : zA l y cc nL ret d mc ms n0 Post cells slots (pc + 1) lv (.int a.toInt8.toInt32 :: st) sh M) : zA l y cc nL ret d mc ms n0 Post cells slots (pc) lv (.int a :: st) sh M :=
  zA.go h (fun hs _ => z_cn z_rki (z_tl hs)) (fun _ _ _ _ _ _ _ _ _ _ _ _ _ _ hx hb ho ht hl k => lv_i2b hx hb hd rfl k)
theorem z_dup {v : Value} (hd : decode cc pc = .ok (.dup, 1)) (hc : v.category = 1) (h : zA l y cc nL ret d mc ms n0 Post cells slots (pc + 1) lv (v :: v :: st) sh M) : zA l y cc nL ret d mc ms n0 Post cells slots (pc) lv (v :: st) sh M :=
  zA.go h (fun hs _ => z_cn (z_hd hs) hs) (fun _ _ _ _ _ _ _ _ _ _ _ _ _ _ hx hb ho ht hl k => lv_dup hx hb hd ((z_v_cat _ _).trans hc) k)
theorem z_pop {v : Value} (hd : decode cc pc = .ok (.pop, 1)) (hc : v.category = 1) (h : zA l y cc nL ret d mc ms n0 Post cells slots (pc + 1) lv (st) sh M) : zA l y cc nL ret d mc ms n0 Post cells slots (pc) lv (v :: st) sh M :=
  zA.go h (fun hs _ => z_tl hs) (fun _ _ _ _ _ _ _ _ _ _ _ _ _ _ hx hb ho ht hl k => lv_pop hx hb hd ((z_v_cat _ _).trans hc) k)
theorem z_dup2 {v w : Value} (hd : decode cc pc = .ok (.dup2, 1)) (hc : v.category = 1) (hc2 : w.category = 1) (h : zA l y cc nL ret d mc ms n0 Post cells slots (pc + 1) lv (v :: w :: v :: w :: st) sh M) : zA l y cc nL ret d mc ms n0 Post cells slots (pc) lv (v :: w :: st) sh M :=
  zA.go h (fun hs _ => z_cn (z_hd hs) (z_cn (z_hd (z_tl hs)) hs)) (fun _ _ _ _ _ _ _ _ _ _ _ _ _ _ hx hb ho ht hl k => lv_dup2_11 hx hb hd ((z_v_cat _ _).trans hc) ((z_v_cat _ _).trans hc2) k)
theorem z_goto {off : Int} {tgt : Nat} (hd : decode cc pc = .ok (.goto off, 3)) (hg : (pc : Int) + off = (tgt : Int)) (h : zA l y cc nL ret d mc ms n0 Post cells slots (tgt) lv (st) sh M) : zA l y cc nL ret d mc ms n0 Post cells slots (pc) lv (st) sh M :=
  zA.go h (fun hs _ => hs) (fun _ _ _ _ _ _ _ _ _ _ _ _ _ _ hx hb ho ht hl k => lv_goto hx hb hd hg k)
theorem z_if_eq {a : Int32} {off : Int} {tgt : Nat} (hd : decode cc pc = .ok (.ifCond .eq off, 3)) (hg : (pc : Int) + off = (tgt : Int)) (kt : (a = 0) → zA l y cc nL ret d mc ms n0 Post cells slots (tgt) lv (st) sh M) (kf : ¬ (a = 0) → zA l y cc nL ret d mc ms n0 Post cells slots (pc + 3) lv (st) sh M) : zA l y cc nL ret d mc ms n0 Post cells slots (pc) lv (.int a :: st) sh M := by
  intro p e Rm s m args below meth c dC dI cA A ρ0 Q C E ρ H locs ls hwf hlv hst hn hρ hc hs hP hD hS hl
  exact lv_if_eq C.1 C.2.1 hd hg (fun q => kt q p e Rm s m args below meth c dC dI cA A ρ0 Q C E ρ H locs ls hwf hlv (z_tl hst) hn hρ hc hs hP hD hS hl) (fun q => kf q p e Rm s m args below meth c dC dI cA A ρ0 Q C E ρ H locs ls hwf hlv (z_tl hst) hn hρ hc hs hP hD hS hl)
theorem z_icmp_eq {a b : Int32} {off : Int} {tgt : Nat} (hd : decode cc pc = .ok (.if_icmp .eq off, 3)) (hg : (pc : Int) + off = (tgt : Int)) (kt : (a = b) → zA l y cc nL ret d mc ms n0 Post cells slots (tgt) lv (st) sh M) (kf : ¬ (a = b) → zA l y cc nL ret d mc ms n0 Post cells slots (pc + 3) lv (st) sh M) : zA l y cc nL ret d mc ms n0 Post cells slots (pc) lv (.int b :: .int a :: st) sh M := by
  intro p e Rm s m args below meth c dC dI cA A ρ0 Q C E ρ H locs ls hwf hlv hst hn hρ hc hs hP hD hS hl
  exact lv_icmp_eq C.1 C.2.1 hd hg (fun q => kt q p e Rm s m args below meth c dC dI cA A ρ0 Q C E ρ H locs ls hwf hlv (z_tl (z_tl hst)) hn hρ hc hs hP hD hS hl) (fun q => kf q p e Rm s m args below meth c dC dI cA A ρ0 Q C E ρ H locs ls hwf hlv (z_tl (z_tl hst)) hn hρ hc hs hP hD hS hl)
theorem z_if_ne {a : Int32} {off : Int} {tgt : Nat} (hd : decode cc pc = .ok (.ifCond .ne off, 3)) (hg : (pc : Int) + off = (tgt : Int)) (kt : (¬ a = 0) → zA l y cc nL ret d mc ms n0 Post cells slots (tgt) lv (st) sh M) (kf : (a = 0) → zA l y cc nL ret d mc ms n0 Post cells slots (pc + 3) lv (st) sh M) : zA l y cc nL ret d mc ms n0 Post cells slots (pc) lv (.int a :: st) sh M := by
  intro p e Rm s m args below meth c dC dI cA A ρ0 Q C E ρ H locs ls hwf hlv hst hn hρ hc hs hP hD hS hl
  exact lv_if_ne C.1 C.2.1 hd hg (fun q => kt q p e Rm s m args below meth c dC dI cA A ρ0 Q C E ρ H locs ls hwf hlv (z_tl hst) hn hρ hc hs hP hD hS hl) (fun q => kf q p e Rm s m args below meth c dC dI cA A ρ0 Q C E ρ H locs ls hwf hlv (z_tl hst) hn hρ hc hs hP hD hS hl)
theorem z_icmp_ne {a b : Int32} {off : Int} {tgt : Nat} (hd : decode cc pc = .ok (.if_icmp .ne off, 3)) (hg : (pc : Int) + off = (tgt : Int)) (kt : (¬ a = b) → zA l y cc nL ret d mc ms n0 Post cells slots (tgt) lv (st) sh M) (kf : (a = b) → zA l y cc nL ret d mc ms n0 Post cells slots (pc + 3) lv (st) sh M) : zA l y cc nL ret d mc ms n0 Post cells slots (pc) lv (.int b :: .int a :: st) sh M := by
  intro p e Rm s m args below meth c dC dI cA A ρ0 Q C E ρ H locs ls hwf hlv hst hn hρ hc hs hP hD hS hl
  exact lv_icmp_ne C.1 C.2.1 hd hg (fun q => kt q p e Rm s m args below meth c dC dI cA A ρ0 Q C E ρ H locs ls hwf hlv (z_tl (z_tl hst)) hn hρ hc hs hP hD hS hl) (fun q => kf q p e Rm s m args below meth c dC dI cA A ρ0 Q C E ρ H locs ls hwf hlv (z_tl (z_tl hst)) hn hρ hc hs hP hD hS hl)
theorem z_if_lt {a : Int32} {off : Int} {tgt : Nat} (hd : decode cc pc = .ok (.ifCond .lt off, 3)) (hg : (pc : Int) + off = (tgt : Int)) (kt : (a < 0) → zA l y cc nL ret d mc ms n0 Post cells slots (tgt) lv (st) sh M) (kf : ¬ (a < 0) → zA l y cc nL ret d mc ms n0 Post cells slots (pc + 3) lv (st) sh M) : zA l y cc nL ret d mc ms n0 Post cells slots (pc) lv (.int a :: st) sh M := by
  intro p e Rm s m args below meth c dC dI cA A ρ0 Q C E ρ H locs ls hwf hlv hst hn hρ hc hs hP hD hS hl
  exact lv_if_lt C.1 C.2.1 hd hg (fun q => kt q p e Rm s m args below meth c dC dI cA A ρ0 Q C E ρ H locs ls hwf hlv (z_tl hst) hn hρ hc hs hP hD hS hl) (fun q => kf q p e Rm s m args below meth c dC dI cA A ρ0 Q C E ρ H locs ls hwf hlv (z_tl hst) hn hρ hc hs hP hD hS hl)
theorem z_icmp_lt {a b : Int32} {off : Int} {tgt : Nat} (hd : decode cc pc = .ok (.if_icmp .lt off, 3)) (hg : (pc : Int) + off = (tgt : Int)) (kt : (a < b) → zA l y cc nL ret d mc ms n0 Post cells slots (tgt) lv (st) sh M) (kf : ¬ (a < b) → zA l y cc nL ret d mc ms n0 Post cells slots (pc + 3) lv (st) sh M) : zA l y cc nL ret d mc ms n0 Post cells slots (pc) lv (.int b :: .int a :: st) sh M := by
  intro p e Rm s m args below meth c dC dI cA A ρ0 Q C E ρ H locs ls hwf hlv hst hn hρ hc hs hP hD hS hl
  exact lv_icmp_lt C.1 C.2.1 hd hg (fun q => kt q p e Rm s m args below meth c dC dI cA A ρ0 Q C E ρ H locs ls hwf hlv (z_tl (z_tl hst)) hn hρ hc hs hP hD hS hl) (fun q => kf q p e Rm s m args below meth c dC dI cA A ρ0 Q C E ρ H locs ls hwf hlv (z_tl (z_tl hst)) hn hρ hc hs hP hD hS hl)
theorem z_if_ge {a : Int32} {off : Int} {tgt : Nat} (hd : decode cc pc = .ok (.ifCond .ge off, 3)) (hg : (pc : Int) + off = (tgt : Int)) (kt : (0 ≤ a) → zA l y cc nL ret d mc ms n0 Post cells slots (tgt) lv (st) sh M) (kf : ¬ (0 ≤ a) → zA l y cc nL ret d mc ms n0 Post cells slots (pc + 3) lv (st) sh M) : zA l y cc nL ret d mc ms n0 Post cells slots (pc) lv (.int a :: st) sh M := by
  intro p e Rm s m args below meth c dC dI cA A ρ0 Q C E ρ H locs ls hwf hlv hst hn hρ hc hs hP hD hS hl
  exact lv_if_ge C.1 C.2.1 hd hg (fun q => kt q p e Rm s m args below meth c dC dI cA A ρ0 Q C E ρ H locs ls hwf hlv (z_tl hst) hn hρ hc hs hP hD hS hl) (fun q => kf q p e Rm s m args below meth c dC dI cA A ρ0 Q C E ρ H locs ls hwf hlv (z_tl hst) hn hρ hc hs hP hD hS hl)
theorem z_icmp_ge {a b : Int32} {off : Int} {tgt : Nat} (hd : decode cc pc = .ok (.if_icmp .ge off, 3)) (hg : (pc : Int) + off = (tgt : Int)) (kt : (b ≤ a) → zA l y cc nL ret d mc ms n0 Post cells slots (tgt) lv (st) sh M) (kf : ¬ (b ≤ a) → zA l y cc nL ret d mc ms n0 Post cells slots (pc + 3) lv (st) sh M) : zA l y cc nL ret d mc ms n0 Post cells slots (pc) lv (.int b :: .int a :: st) sh M := by
  intro p e Rm s m args below meth c dC dI cA A ρ0 Q C E ρ H locs ls hwf hlv hst hn hρ hc hs hP hD hS hl
  exact lv_icmp_ge C.1 C.2.1 hd hg (fun q => kt q p e Rm s m args below meth c dC dI cA A ρ0 Q C E ρ H locs ls hwf hlv (z_tl (z_tl hst)) hn hρ hc hs hP hD hS hl) (fun q => kf q p e Rm s m args below meth c dC dI cA A ρ0 Q C E ρ H locs ls hwf hlv (z_tl (z_tl hst)) hn hρ hc hs hP hD hS hl)
theorem z_if_gt {a : Int32} {off : Int} {tgt : Nat} (hd : decode cc pc = .ok (.ifCond .gt off, 3)) (hg : (pc : Int) + off = (tgt : Int)) (kt : (0 < a) → zA l y cc nL ret d mc ms n0 Post cells slots (tgt) lv (st) sh M) (kf : ¬ (0 < a) → zA l y cc nL ret d mc ms n0 Post cells slots (pc + 3) lv (st) sh M) : zA l y cc nL ret d mc ms n0 Post cells slots (pc) lv (.int a :: st) sh M := by
  intro p e Rm s m args below meth c dC dI cA A ρ0 Q C E ρ H locs ls hwf hlv hst hn hρ hc hs hP hD hS hl
  exact lv_if_gt C.1 C.2.1 hd hg (fun q => kt q p e Rm s m args below meth c dC dI cA A ρ0 Q C E ρ H locs ls hwf hlv (z_tl hst) hn hρ hc hs hP hD hS hl) (fun q => kf q p e Rm s m args below meth c dC dI cA A ρ0 Q C E ρ H locs ls hwf hlv (z_tl hst) hn hρ hc hs hP hD hS hl)
theorem z_icmp_gt {a b : Int32} {off : Int} {tgt : Nat} (hd : decode cc pc = .ok (.if_icmp .gt off, 3)) (hg : (pc : Int) + off = (tgt : Int)) (kt : (b < a) → zA l y cc nL ret d mc ms n0 Post cells slots (tgt) lv (st) sh M) (kf : ¬ (b < a) → zA l y cc nL ret d mc ms n0 Post cells slots (pc + 3) lv (st) sh M) : zA l y cc nL ret d mc ms n0 Post cells slots (pc) lv (.int b :: .int a :: st) sh M := by
  intro p e Rm s m args below meth c dC dI cA A ρ0 Q C E ρ H locs ls hwf hlv hst hn hρ hc hs hP hD hS hl
  exact lv_icmp_gt C.1 C.2.1 hd hg (fun q => kt q p e Rm s m args below meth c dC dI cA A ρ0 Q C E ρ H locs ls hwf hlv (z_tl (z_tl hst)) hn hρ hc hs hP hD hS hl) (fun q => kf q p e Rm s m args below meth c dC dI cA A ρ0 Q C E ρ H locs ls hwf hlv (z_tl (z_tl hst)) hn hρ hc hs hP hD hS hl)
theorem z_if_le {a : Int32} {off : Int} {tgt : Nat} (hd : decode cc pc = .ok (.ifCond .le off, 3)) (hg : (pc : Int) + off = (tgt : Int)) (kt : (a ≤ 0) → zA l y cc nL ret d mc ms n0 Post cells slots (tgt) lv (st) sh M) (kf : ¬ (a ≤ 0) → zA l y cc nL ret d mc ms n0 Post cells slots (pc + 3) lv (st) sh M) : zA l y cc nL ret d mc ms n0 Post cells slots (pc) lv (.int a :: st) sh M := by
  intro p e Rm s m args below meth c dC dI cA A ρ0 Q C E ρ H locs ls hwf hlv hst hn hρ hc hs hP hD hS hl
  exact lv_if_le C.1 C.2.1 hd hg (fun q => kt q p e Rm s m args below meth c dC dI cA A ρ0 Q C E ρ H locs ls hwf hlv (z_tl hst) hn hρ hc hs hP hD hS hl) (fun q => kf q p e Rm s m args below meth c dC dI cA A ρ0 Q C E ρ H locs ls hwf hlv (z_tl hst) hn hρ hc hs hP hD hS hl)
theorem z_icmp_le {a b : Int32} {off : Int} {tgt : Nat} (hd : decode cc pc = .ok (.if_icmp .le off, 3)) (hg : (pc : Int) + off = (tgt : Int)) (kt : (a ≤ b) → zA l y cc nL ret d mc ms n0 Post cells slots (tgt) lv (st) sh M) (kf : ¬ (a ≤ b) → zA l y cc nL ret d mc ms n0 Post cells slots (pc + 3) lv (st) sh M) : zA l y cc nL ret d mc ms n0 Post cells slots (pc) lv (.int b :: .int a :: st) sh M := by
  intro p e Rm s m args below meth c dC dI cA A ρ0 Q C E ρ H locs ls hwf hlv hst hn hρ hc hs hP hD hS hl
  exact lv_icmp_le C.1 C.2.1 hd hg (fun q => kt q p e Rm s m args below meth c dC dI cA A ρ0 Q C E ρ H locs ls hwf hlv (z_tl (z_tl hst)) hn hρ hc hs hP hD hS hl) (fun q => kf q p e Rm s m args below meth c dC dI cA A ρ0 Q C E ρ H locs ls hwf hlv (z_tl (z_tl hst)) hn hρ hc hs hP hD hS hl)
theorem z_istore_n {i : Nat} {x : Int32} {k : Fin 4} (hk : (k : Nat) = i) (hd : decode cc pc = .ok (.istore_n k, 1)) (hi : i < nL) (hl' : zs lv i (.int x) = lv') (h : zA l y cc nL ret d mc ms n0 Post cells slots (pc + 1) lv' (st) sh M) : zA l y cc nL ret d mc ms n0 Post cells slots (pc) lv (.int x :: st) sh M := by
  subst hl'
  intro p e Rm s m args below meth c dC dI cA A ρ0 Q C E ρ H locs ls hwf hlv hst hn hρ hc hs hP hD hS hl
  exact lv_istore_n C.1 C.2.1 hd hk hl hi (zs_map ρ lv i (.int x)) (fun ls' hl'' => h p e Rm s m args below meth c dC dI cA A ρ0 Q C E ρ H locs ls' hwf (zs_rk hlv z_rki) (z_tl hst) hn hρ hc hs hP hD hS hl'')
theorem z_istore {i : Nat} {x : Int32} (hd : decode cc pc = .ok (.istore i, 2)) (hi : i < nL) (hl' : zs lv i (.int x) = lv') (h : zA l y cc nL ret d mc ms n0 Post cells slots (pc + 2) lv' (st) sh M) : zA l y cc nL ret d mc ms n0 Post cells slots (pc) lv (.int x :: st) sh M := by
  subst hl'
  intro p e Rm s m args below meth c dC dI cA A ρ0 Q C E ρ H locs ls hwf hlv hst hn hρ hc hs hP hD hS hl
  exact lv_istore C.1 C.2.1 hd hl hi (zs_map ρ lv i (.int x)) (fun ls' hl'' => h p e Rm s m args below meth c dC dI cA A ρ0 Q C E ρ H locs ls' hwf (zs_rk hlv z_rki) (z_tl hst) hn hρ hc hs hP hD hS hl'')
theorem z_lstore_n {i : Nat} {x : Int64} {k : Fin 4} (hk : (k : Nat) = i) (hd : decode cc pc = .ok (.lstore_n k, 1)) (hi : i + 1 < nL) (hl' : zs2 lv i (.long x) = lv') (h : zA l y cc nL ret d mc ms n0 Post cells slots (pc + 1) lv' (st) sh M) : zA l y cc nL ret d mc ms n0 Post cells slots (pc) lv (.long x :: st) sh M := by
  subst hl'
  intro p e Rm s m args below meth c dC dI cA A ρ0 Q C E ρ H locs ls hwf hlv hst hn hρ hc hs hP hD hS hl
  exact lv_lstore_n C.1 C.2.1 hd hk hl hi (zs2_map ρ lv i (.long x)) (fun ls' hl'' => h p e Rm s m args below meth c dC dI cA A ρ0 Q C E ρ H locs ls' hwf (zs2_rk hlv z_rkl) (z_tl hst) hn hρ hc hs hP hD hS hl'')
theorem z_lstore {i : Nat} {x : Int64} (hd : decode cc pc = .ok (.lstore i, 2)) (hi : i + 1 < nL) (hl' : zs2 lv i (.long x) = lv') (h : zA l y cc nL ret d mc ms n0 Post cells slots (pc + 2) lv' (st) sh M) : zA l y cc nL ret d mc ms n0 Post cells slots (pc) lv (.long x :: st) sh M := by
  subst hl'
  intro p e Rm s m args below meth c dC dI cA A ρ0 Q C E ρ H locs ls hwf hlv hst hn hρ hc hs hP hD hS hl
  exact lv_lstore C.1 C.2.1 hd hl hi (zs2_map ρ lv i (.long x)) (fun ls' hl'' => h p e Rm s m args below meth c dC dI cA A ρ0 Q C E ρ H locs ls' hwf (zs2_rk hlv z_rkl) (z_tl hst) hn hρ hc hs hP hD hS hl'')
theorem z_astore_n {i : Nat} {x : Nat} {k : Fin 4} (hk : (k : Nat) = i) (hd : decode cc pc = .ok (.astore_n k, 1)) (hi : i < nL) (hl' : zs lv i (.ref x) = lv') (h : zA l y cc nL ret d mc ms n0 Post cells slots (pc + 1) lv' (st) sh M) : zA l y cc nL ret d mc ms n0 Post cells slots (pc) lv (.ref x :: st) sh M := by
  subst hl'
  intro p e Rm s m args below meth c dC dI cA A ρ0 Q C E ρ H locs ls hwf hlv hst hn hρ hc hs hP hD hS hl
  exact lv_astore_n C.1 C.2.1 hd hk hl hi (zs_map ρ lv i (.ref x)) (fun ls' hl'' => h p e Rm s m args below meth c dC dI cA A ρ0 Q C E ρ H locs ls' hwf (zs_rk hlv (z_hd hst)) (z_tl hst) hn hρ hc hs hP hD hS hl'')
theorem z_iinc {i : Nat} {n : Int} {x v : Int32} (hd : decode cc pc = .ok (.iinc i n, 3)) (hg : zg lv i = some (.int x)) (hv : x + Int32.ofInt n = v) (hi : i < nL) (hl' : zs lv i (.int v) = lv') (h : zA l y cc nL ret d mc ms n0 Post cells slots (pc + 3) lv' (st) sh M) : zA l y cc nL ret d mc ms n0 Post cells slots (pc) lv (st) sh M := by
  subst hl'
  intro p e Rm s m args below meth c dC dI cA A ρ0 Q C E ρ H locs ls hwf hlv hst hn hρ hc hs hP hD hS hl
  obtain ⟨k, hk⟩ := List.getElem?_of_mem (zg_in hg)
  have hk2 : (lv.map (fun q => (q.1, z_v ρ q.2)))[k]? = some (i, .int x) := by rw [List.getElem?_map, hk]; rfl
  exact lv_iinc C.1 C.2.1 hd hl hk2 hv hi (zs_map ρ lv i (.int v)) (fun ls' hl'' => h p e Rm s m args below meth c dC dI cA A ρ0 Q C E ρ H locs ls' hwf (zs_rk hlv z_rki) hst hn hρ hc hs hP hD hS hl'')
theorem z_tabIn {dflt lo hi off : Int} {offs : Array Int} {len tgt : Nat} {x : Int32} (hd : decode cc pc = .ok (.tableswitch dflt lo hi offs, len)) (h1 : ¬ x.toInt < lo) (h2 : ¬ hi < x.toInt) (ho : offs[(x.toInt - lo).toNat]? = some off) (hg : (pc : Int) + off = (tgt : Int)) (h : zA l y cc nL ret d mc ms n0 Post cells slots (tgt) lv (st) sh M) : zA l y cc nL ret d mc ms n0 Post cells slots (pc) lv (.int x :: st) sh M :=
  zA.go h (fun hs _ => z_tl hs) (fun _ _ _ _ _ _ _ _ _ _ _ _ _ _ hx hb ho' ht hl k => lv_tableIn hx hb hd h1 h2 ho hg k)
theorem z_tabOut {dflt lo hi : Int} {offs : Array Int} {len tgt : Nat} {x : Int32} (hd : decode cc pc = .ok (.tableswitch dflt lo hi offs, len)) (h1 : x.toInt < lo ∨ hi < x.toInt) (hg : (pc : Int) + dflt = (tgt : Int)) (h : zA l y cc nL ret d mc ms n0 Post cells slots (tgt) lv (st) sh M) : zA l y cc nL ret d mc ms n0 Post cells slots (pc) lv (.int x :: st) sh M :=
  zA.go h (fun hs _ => z_tl hs) (fun _ _ _ _ _ _ _ _ _ _ _ _ _ _ hx hb ho' ht hl k => lv_tableOut hx hb hd h1 hg k)
theorem z_look {dflt off : Int} {ps : Array (Int × Int)} {len tgt : Nat} {x : Int32} (hd : decode cc pc = .ok (.lookupswitch dflt ps, len)) (hp : (ps.toList.zip (ps.toList.drop 1)).all (fun (a, next) => a.1 < next.1) = true) (ho : Op.lookupswitch.offset ps.toList dflt x.toInt = off) (hg : (pc : Int) + off = (tgt : Int)) (h : zA l y cc nL ret d mc ms n0 Post cells slots (tgt) lv (st) sh M) : zA l y cc nL ret d mc ms n0 Post cells slots (pc) lv (.int x :: st) sh M :=
  zA.go h (fun hs _ => z_tl hs) (fun _ _ _ _ _ _ _ _ _ _ _ _ _ _ hx hb ho' ht hl k => lv_lookup hx hb hd hp ho hg k)
end ZR
