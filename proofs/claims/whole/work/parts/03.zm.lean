/-! THE Z-MACHINE: the machine over a numbered world. A world has cells 0, 1, 2 ..; cell i is an object of class sh[i] = .inl ci, or an array sh[i] = .inr (kind, length) (kind 0 int[], 1 byte[], 2 long[]). What it holds: I i k whole numbers, R i k references (numbers of cells), L i k longs. rho says where cell i lies in the heap. zA is W of the kit with all of that hidden; zMet is a contract. -/
def z_nest (w : Cond) : Bool := match w with
  | .methodLinkNest _ _ _ _ => true
  | _ => false
/-- the tables' words that stay true while the tables grow warm -/
def z_tbl : List Cond := lw_tbl.filter (fun w => goodWord w || z_nest w)
theorem z_mem {w : Cond} (h : w ∈ lw_tbl) (hg : (goodWord w || z_nest w) = true) : w ∈ z_tbl := List.mem_filter.mpr ⟨h, hg⟩
abbrev zI : Type := Nat → Nat → Int32
abbrev zR : Type := Nat → Nat → Option Nat
abbrev zL : Type := Nat → Nat → Int64
abbrev zC : Type := Nat ⊕ (Nat × Nat)
abbrev zM : Type := zI × zR × zL
def z_v (ρ : Nat → Nat) (v : Value) : Value := match v with
  | .ref a => .ref (ρ a)
  | .int x => .int x
  | .long x => .long x
  | .float x => .float x
  | .double x => .double x
  | .null => .null
  | .retAddr x => .retAddr x
theorem z_v_cat (ρ : Nat → Nat) (v : Value) : (z_v ρ v).category = v.category := by cases v <;> rfl
def z_ty (ci : Nat) : Nat → FieldType := match ci with
  | 0 => tyX0 | 1 => tyX1 | 2 => tyX2 | 3 => tyX3 | 4 => tyX4 | 5 => tyX5 | 6 => tyX6 | 7 => tyX7 | 8 => tyX8 | 9 => tyX10 | 10 => tyX11 | _ => tyX12
def z_C (ci : Nat) : String := match ci with
  | 0 => RX0 | 1 => RX1 | 2 => RX2 | 3 => RX3 | 4 => RX4 | 5 => RX5 | 6 => RX6 | 7 => RX7 | 8 => RX8 | 9 => RX10 | 10 => RX11 | _ => RX12
def z_T (ci : Nat) : u_T := match ci with
  | 0 => TX0 | 1 => TX1 | 2 => TX2 | 3 => TX3 | 4 => TX4 | 5 => TX5 | 6 => TX6 | 7 => TX7 | 8 => TX8 | 9 => TX10 | 10 => TX11 | _ => TX12
def z_N (ci : Nat) : Nat := match ci with
  | 0 => 5 | 1 => 6 | 2 => 2 | 3 => 2 | 4 => 16 | 5 => 2 | 6 => 2 | 7 => 3 | 8 => 10 | 9 => 5 | 10 => 14 | _ => 42
theorem z_cl {ci : Nat} (h : ci < 12) : vwCl[ci]? = some (z_C ci, z_T ci, z_N ci) := by
  match ci, h with
  | 0, _ => rfl | 1, _ => rfl | 2, _ => rfl | 3, _ => rfl | 4, _ => rfl | 5, _ => rfl | 6, _ => rfl | 7, _ => rfl | 8, _ => rfl | 9, _ => rfl | 10, _ => rfl | 11, _ => rfl
theorem z_tyok {ci : Nat} (h : ci < 12) : ∀ k, k < z_N ci → parseFieldDescriptor (z_T ci k).2.2.1 = some (z_ty ci k) := by
  match ci, h with
  | 0, _ => exact tyX0_ok | 1, _ => exact tyX1_ok | 2, _ => exact tyX2_ok | 3, _ => exact tyX3_ok | 4, _ => exact tyX4_ok | 5, _ => exact tyX5_ok | 6, _ => exact tyX6_ok | 7, _ => exact tyX7_ok | 8, _ => exact tyX8_ok | 9, _ => exact tyX10_ok | 10, _ => exact tyX11_ok | 11, _ => exact tyX12_ok
theorem z_nm {ci : Nat} (h : ci < 12) : ∀ a, a < z_N ci → ∀ b, b < z_N ci → a ≠ b → (z_T ci a).2.1 ≠ (z_T ci b).2.1 := by
  match ci, h with
  | 0, _ => exact nmX0 | 1, _ => exact nmX1 | 2, _ => exact nmX2 | 3, _ => exact nmX3 | 4, _ => exact nmX4 | 5, _ => exact nmX5 | 6, _ => exact nmX6 | 7, _ => exact nmX7 | 8, _ => exact nmX8 | 9, _ => exact nmX10 | 10, _ => exact nmX11 | 11, _ => exact nmX12
theorem z_in0 : ∀ w ∈ u_ws RX0 TX0 5, w ∈ z_tbl := by decide +kernel
theorem z_in1 : ∀ w ∈ u_ws RX1 TX1 6, w ∈ z_tbl := by decide +kernel
theorem z_in2 : ∀ w ∈ u_ws RX2 TX2 2, w ∈ z_tbl := by decide +kernel
theorem z_in3 : ∀ w ∈ u_ws RX3 TX3 2, w ∈ z_tbl := by decide +kernel
theorem z_in4 : ∀ w ∈ u_ws RX4 TX4 16, w ∈ z_tbl := by decide +kernel
theorem z_in5 : ∀ w ∈ u_ws RX5 TX5 2, w ∈ z_tbl := by decide +kernel
theorem z_in6 : ∀ w ∈ u_ws RX6 TX6 2, w ∈ z_tbl := by decide +kernel
theorem z_in7 : ∀ w ∈ u_ws RX7 TX7 3, w ∈ z_tbl := by decide +kernel
theorem z_in8 : ∀ w ∈ u_ws RX8 TX8 10, w ∈ z_tbl := by decide +kernel
theorem z_in9 : ∀ w ∈ u_ws RX10 TX10 5, w ∈ z_tbl := by decide +kernel
theorem z_in10 : ∀ w ∈ u_ws RX11 TX11 14, w ∈ z_tbl := by decide +kernel
theorem z_in11 : ∀ w ∈ u_ws RX12 TX12 42, w ∈ z_tbl := by decide +kernel
theorem z_in {ci : Nat} (h : ci < 12) : ∀ w ∈ u_ws (z_C ci) (z_T ci) (z_N ci), w ∈ z_tbl := by
  match ci, h with
  | 0, _ => exact z_in0 | 1, _ => exact z_in1 | 2, _ => exact z_in2 | 3, _ => exact z_in3 | 4, _ => exact z_in4 | 5, _ => exact z_in5 | 6, _ => exact z_in6 | 7, _ => exact z_in7 | 8, _ => exact z_in8 | 9, _ => exact z_in9 | 10, _ => exact z_in10 | 11, _ => exact z_in11
def z_rt (ci k : Nat) : Nat := match ci, k with
  | 0, 0 => 8
  | 0, 1 => 4
  | 1, 0 => 100
  | 1, 1 => 100
  | 1, 2 => 100
  | 1, 3 => 100
  | 2, 0 => 100
  | 2, 1 => 100
  | 3, 0 => 100
  | 4, 0 => 100
  | 4, 1 => 100
  | 4, 2 => 100
  | 4, 3 => 100
  | 4, 4 => 100
  | 4, 5 => 100
  | 4, 8 => 100
  | 4, 12 => 8
  | 5, 0 => 9
  | 5, 1 => 4
  | 6, 0 => 9
  | 6, 1 => 8
  | 7, 0 => 100
  | 7, 1 => 100
  | 7, 2 => 100
  | 8, 0 => 100
  | 8, 1 => 100
  | 8, 2 => 100
  | 8, 3 => 100
  | 8, 4 => 100
  | 9, 0 => 100
  | 10, 0 => 9
  | 10, 1 => 8
  | 10, 2 => 8
  | 10, 3 => 8
  | 10, 4 => 0
  | 10, 5 => 5
  | 10, 6 => 6
  | 10, 7 => 2
  | 10, 8 => 7
  | 10, 9 => 1
  | 10, 10 => 3
  | 10, 11 => 4
  | 10, 12 => 4
  | 11, 0 => 100
  | 11, 1 => 100
  | 11, 2 => 100
  | 11, 3 => 101
  | 11, 14 => 100
  | 11, 15 => 100
  | 11, 16 => 100
  | 11, 17 => 100
  | 11, 18 => 100
  | 11, 19 => 100
  | 11, 20 => 100
  | 11, 21 => 100
  | 11, 22 => 100
  | 11, 23 => 100
  | 11, 24 => 100
  | 11, 25 => 100
  | 11, 26 => 100
  | 11, 31 => 100
  | 11, 32 => 100
  | 11, 33 => 102
  | 11, 34 => 102
  | 11, 35 => 100
  | 11, 36 => 100
  | 11, 37 => 100
  | 11, 38 => 100
  | 11, 39 => 100
  | _, _ => 999
/-- a field's value -/
def z_f (ρ : Nat → Nat) (ty : FieldType) (M : zM) (i k : Nat) : Value := match ty with
  | .long => .long (M.2.2 i k)
  | .object _ => va_rf ((M.2.1 i k).map ρ)
  | .array _ => va_rf ((M.2.1 i k).map ρ)
  | _ => .int (M.1 i k)
def z_e (ρ : Nat → Nat) (cA : Nat → ClassId) (c : zC) (M : zM) (i : Nat) : va_E := match c with
  | .inl ci => .inr (ci, (List.range (z_N ci)).map (fun k => z_f ρ (z_ty ci k) M i k))
  | .inr (2, n) => .inl (cA 2, n, .inr (.inl (M.2.2 i)))
  | .inr (t, n) => .inl (cA t, n, .inl (M.1 i))
def z_W (ρ : Nat → Nat) (cA : Nat → ClassId) (sh : List zC) (M : zM) : va_W := (List.range sh.length).map (fun i => (ρ i, z_e ρ cA (sh.getD i (.inl 0)) M i))
def zu {α : Type} (f : Nat → Nat → α) (c j : Nat) (v : α) : Nat → Nat → α := va_up f c (va_up (f c) j v)
theorem zu_same {α : Type} (f : Nat → Nat → α) (c j : Nat) (v : α) : zu f c j v c j = v := by simp [zu, va_up]
theorem zu_cell {α : Type} (f : Nat → Nat → α) {c c' : Nat} (j : Nat) (v : α) (h : c' ≠ c) : zu f c j v c' = f c' := by simp [zu, va_up, h]
theorem zu_ne {α : Type} (f : Nat → Nat → α) (c : Nat) {j j' : Nat} (v : α) (h : j' ≠ j) : zu f c j v c j' = f c j' := by simp [zu, va_up, h]
theorem zu_at {α : Type} (f : Nat → Nat → α) (c j c' j' : Nat) (v : α) : zu f c j v c' j' = if c' = c ∧ j' = j then v else f c' j' := by
  by_cases h : c' = c
  · subst h
    by_cases h2 : j' = j <;> simp [zu, va_up, h2]
  · simp [zu, va_up, h]
theorem z_W_at {ρ : Nat → Nat} {cA : Nat → ClassId} {sh : List zC} {M : zM} {i : Nat} {c : zC} (h : sh[i]? = some c) : (z_W ρ cA sh M)[i]? = some (ρ i, z_e ρ cA c M i) := by
  obtain ⟨hl, he⟩ := List.getElem?_eq_some_iff.mp h
  subst he
  simp [z_W, hl]
theorem z_W_len {ρ : Nat → Nat} {cA : Nat → ClassId} {sh : List zC} {M : zM} : (z_W ρ cA sh M).length = sh.length := by simp [z_W]
theorem z_e_off {ρ : Nat → Nat} {cA : Nat → ClassId} {c : zC} {M M' : zM} {i : Nat} (h1 : M'.1 i = M.1 i) (h2 : M'.2.1 i = M.2.1 i) (h3 : M'.2.2 i = M.2.2 i) : z_e ρ cA c M' i = z_e ρ cA c M i := by
  unfold z_e
  split
  · congr 2
    apply List.map_congr_left
    intro k _
    unfold z_f
    rw [h1, h2, h3]
  · rw [h3]
  · rw [h1]
theorem z_W_upd {ρ : Nat → Nat} {cA : Nat → ClassId} {sh : List zC} {M M' : zM} {o : Nat} {c : zC} (h : sh[o]? = some c) (h1 : ∀ i, i ≠ o → M'.1 i = M.1 i) (h2 : ∀ i, i ≠ o → M'.2.1 i = M.2.1 i) (h3 : ∀ i, i ≠ o → M'.2.2 i = M.2.2 i) : (z_W ρ cA sh M).set o (ρ o, z_e ρ cA c M' o) = z_W ρ cA sh M' := by
  have hl : o < sh.length := (List.getElem?_eq_some_iff.mp h).1
  apply List.ext_getElem?
  intro i
  by_cases hi : i = o
  · subst hi
    rw [List.getElem?_set_self (by rw [z_W_len]; exact hl), z_W_at h]
  · rw [List.getElem?_set_ne (Ne.symm hi)]
    by_cases hs : i < sh.length
    · have hc : sh[i]? = some sh[i] := List.getElem?_eq_getElem hs
      rw [z_W_at hc, z_W_at hc, z_e_off (h1 i hi) (h2 i hi) (h3 i hi)]
    · have hn : sh.length ≤ i := Nat.not_lt.mp hs
      rw [List.getElem?_eq_none (by rw [z_W_len]; exact hn), List.getElem?_eq_none (by rw [z_W_len]; exact hn)]
theorem z_fs_set {f : Nat → Value} {n k : Nat} {v : Value} {g : Nat → Value} (hk : k < n) (h1 : g k = v) (h2 : ∀ j, j ≠ k → g j = f j) : ((List.range n).map f).set k v = (List.range n).map g := by
  apply List.ext_getElem?
  intro j
  by_cases hj : j = k
  · subst hj
    rw [List.getElem?_set_self (by simpa using hk)]
    simp [hk, h1]
  · rw [List.getElem?_set_ne (Ne.symm hj)]
    by_cases hl : j < n
    · simp [hl, h2 j hj]
    · simp [Nat.not_lt.mp hl]
/-- the references of a world stay in it -/
def z_tm (sh : List zC) (t a : Nat) : Prop := (t < 12 ∧ sh[a]? = some (.inl t)) ∨ (100 ≤ t ∧ ∃ n, sh[a]? = some (.inr (t - 100, n)))
def z_wf (sh : List zC) (M : zM) : Prop := ∀ i ci k a, sh[i]? = some (.inl ci) → k < z_N ci → M.2.1 i k = some a → z_tm sh (z_rt ci k) a
theorem z_tm.lt {sh : List zC} {t a : Nat} (h : z_tm sh t a) : a < sh.length := by
  rcases h with ⟨_, h⟩ | ⟨_, _, h⟩
  · exact (List.getElem?_eq_some_iff.mp h).1
  · exact (List.getElem?_eq_some_iff.mp h).1
def z_rk (n : Nat) (v : Value) : Prop := ∀ a, v = .ref a → a < n
def z_tys (cA : Nat → ClassId) : List (ClassId × FieldType) := [(cA 0, .int), (cA 1, .byte), (cA 2, .long)]
def z_ri (r : Option Value) : Instr := match r with
  | none => .return_
  | some (.long _) => .lreturn
  | some _ => .ireturn
def z_ok (ret : Option FieldType) (r : Option Value) : Prop := match r with
  | none => ret = none
  | some (.long _) => ret = some .long
  | some (.int v) => ∃ ty, ret = some ty ∧ narrow ty (.int v) = .int v
  | some _ => False
def z_rm (d mc ms : Nat) : Room := { frames := d, cells := mc, slots := ms, locals := 64 * d }
abbrev zP : Type := Option Value → List zC → zM → Prop
def zCx (p : Program) (Rm : Room) (s : State) (m : MethodId) (args : Array Value) (meth : Method) (c : Code) (y : MethodName) (cc : ByteArray) (nL : Nat) (ret : Option FieldType) (d mc ms : Nat) (dC : Nat → ClassId) (dI : Nat → Nat → Nat) (cA : Nat → ClassId) (A : Nat → Prop) : Prop :=
  p.tables.exec = Jvm.exec ∧ c.code = cc ∧ meth.sig.returnType = ret ∧ c.maxLocals = nL ∧ s.vm.findClass y.cls = some m.cls ∧ meth.name = y.name ∧ (∀ w ∈ z_tbl, w.before args s = true) ∧ meth.locks = false ∧ va_K (dC, dI) vwCl (z_tys cA) s ∧ (∀ q, s.heap.size ≤ q → A q) ∧ d ≤ Rm.frames ∧ 64 * d ≤ Rm.locals ∧ mc ≤ Rm.cells ∧ ms ≤ Rm.slots
def zEnd (p : Program) (l : Launch) (e : Env) (Rm : Room) (s : State) (m : MethodId) (args : Array Value) (below : List Frame) (meth : Method) (c : Code) (cc : ByteArray) (ret : Option FieldType) (mc ms n0 : Nat) (Post : zP) (dC : Nat → ClassId) (dI : Nat → Nat → Nat) (cA : Nat → ClassId) (ρ0 : Nat → Nat) (A : Nat → Prop) (Q : State → Prop) : Prop :=
  ∀ (ρ : Nat → Nat) (H : Heap) (locs : List Loc) (pc : Nat) (ls : Array Slot) (r : Option Value) (sh : List zC) (M : zM), Post r sh M → z_wf sh M → n0 ≤ sh.length → (∀ i, i < n0 → ρ i = ρ0 i) → va_P (dC, dI) vwCl (z_W ρ cA sh M) H → va_D A (z_W ρ cA sh M) → va_S A s.heap H locs → decode cc pc = .ok (z_ri r, 1) → z_ok ret r → W p l e Rm s m args below meth c H locs mc ms Q (F0 m pc ls (r.map (z_v ρ)).toList)
/-- THE JUDGEMENT: the machine, in method y at pc, with locals lv, stack st, over the world sh M, comes to an end with Post -/
def zA (l : Launch) (y : MethodName) (cc : ByteArray) (nL : Nat) (ret : Option FieldType) (d mc ms n0 : Nat) (Post : zP) (cells slots pc : Nat) (lv : List (Nat × Value)) (st : List Value) (sh : List zC) (M : zM) : Prop :=
  ∀ (p : Program) (e : Env) (Rm : Room) (s : State) (m : MethodId) (args : Array Value) (below : List Frame) (meth : Method) (c : Code) (dC : Nat → ClassId) (dI : Nat → Nat → Nat) (cA : Nat → ClassId) (A : Nat → Prop) (ρ0 : Nat → Nat) (Q : State → Prop),
    zCx p Rm s m args meth c y cc nL ret d mc ms dC dI cA A → zEnd p l e Rm s m args below meth c cc ret mc ms n0 Post dC dI cA ρ0 A Q →
    ∀ (ρ : Nat → Nat) (H : Heap) (locs : List Loc) (ls : Array Slot), z_wf sh M → (∀ q ∈ lv, z_rk sh.length q.2) → (∀ v ∈ st, z_rk sh.length v) → n0 ≤ sh.length → (∀ i, i < n0 → ρ i = ρ0 i) → cells ≤ mc → slots ≤ ms →
      va_P (dC, dI) vwCl (z_W ρ cA sh M) H → va_D A (z_W ρ cA sh M) → va_S A s.heap H locs → lv_has ls nL (lv.map (fun q => (q.1, z_v ρ q.2))) →
      W p l e Rm s m args below meth c H locs cells slots Q (F0 m pc ls (st.map (z_v ρ)))
def z_Q (Post : zP) (dC : Nat → ClassId) (dI : Nat → Nat → Nat) (cA : Nat → ClassId) (ρ0 : Nat → Nat) (n0 : Nat) (A : Nat → Prop) : Array Value → State → Outcome → State → Prop := fun _ st oc t =>
  (∃ (ρ : Nat → Nat) (r : Option Value) (sh : List zC) (M : zM), oc = .returned (r.map (z_v ρ)) ∧ Post r sh M ∧ z_wf sh M ∧ (∀ v, r = some v → z_rk sh.length v) ∧ n0 ≤ sh.length ∧ (∀ i, i < n0 → ρ i = ρ0 i) ∧ va_P (dC, dI) vwCl (z_W ρ cA sh M) t.heap ∧ va_K (dC, dI) vwCl (z_tys cA) t ∧ va_D A (z_W ρ cA sh M)) ∧ va_F A st t
def z_Pc (dC : Nat → ClassId) (dI : Nat → Nat → Nat) (cA : Nat → ClassId) (ρ : Nat → Nat) (sz : Nat) (av : List Value) (sh : List zC) (M : zM) : Array Value → State → Prop := va_Pc (av.map (z_v ρ)) (fun U => U.heap.size = sz ∧ va_P (dC, dI) vwCl (z_W ρ cA sh M) U.heap ∧ va_K (dC, dI) vwCl (z_tys cA) U ∧ va_D (fun _ => True) (z_W ρ cA sh M))
/-- A CONTRACT -/
def zMet (l : Launch) (y : MethodName) (cc : ByteArray) (nL : Nat) (ret : Option FieldType) (d mc ms : Nat) (av : List Value) (sh : List zC) (M : zM) (Post : zP) : Prop :=
  ∀ (dC : Nat → ClassId) (dI : Nat → Nat → Nat) (cA : Nat → ClassId) (ρ : Nat → Nat) (sz : Nat), z_wf sh M → (∀ v ∈ av, z_rk sh.length v) →
    Met l y (.code y cc nL ret :: z_tbl) (z_rm d mc ms) (z_Pc dC dI cA ρ sz av sh M) (z_Q Post dC dI cA ρ sh.length (va_A (z_W ρ cA sh M) sz)) mc ms (va_A (z_W ρ cA sh M) sz)
theorem z_lvargs (ρ : Nat → Nat) : ∀ (av : List Value) (i : Nat), lv_args i (av.map (z_v ρ)) = (lv_args i av).map (fun q => (q.1, z_v ρ q.2))
  | [], _ => rfl
  | v :: vs, i => by
    simp only [List.map_cons, lv_args, z_v_cat]
    rw [z_lvargs ρ vs]
theorem z_lvargs_in : ∀ (av : List Value) (i : Nat) (q : Nat × Value), q ∈ lv_args i av → q.2 ∈ av
  | [], _, q, h => by simp [lv_args] at h
  | v :: vs, i, q, h => by
    simp only [lv_args, List.mem_cons] at h
    rcases h with rfl | h
    · exact List.mem_cons_self
    · exact List.mem_cons_of_mem _ (z_lvargs_in vs _ q h)
theorem z_lgsl (ρ : Nat → Nat) (av : List Value) : (lg_sl (av.map (z_v ρ))).length = (lg_sl av).length := by
  unfold lg_sl
  induction av with
  | nil => rfl
  | cons v vs ih =>
    simp only [List.map_cons, List.flatMap_cons, List.length_append, ih, z_v_cat]
    split <;> rfl
/-- a contract out of the walk of the body -/
theorem zMet.of {l : Launch} {y : MethodName} {cc : ByteArray} {nL : Nat} {ret : Option FieldType} {d mc ms : Nat} {av : List Value} {sh : List zC} {M : zM} {Post : zP} (hy : plainName y.cls = true) (hn : (lg_sl av).length ≤ nL) (hret : ret = none ∨ ret = some .int ∨ ret = some .boolean ∨ ret = some .long)
    (h : zA l y cc nL ret d mc ms sh.length Post 0 0 0 (lv_args 0 av) [] sh M) : zMet l y cc nL ret d mc ms av sh M Post := by
  intro dC dI cA ρ sz hwf hrk
  refine Met.ofW (cc := cc) (maxL := nL) (ret := ret) hy rfl ?_
  intro p e s m args below meth c s₁ B hml hv
  obtain ⟨rfl, hsz, hP, hK, hD0⟩ := hv
  have hts0 := atoms_spec (ws := .code y cc nL ret :: z_tbl) B.pre
  have hts : ∀ w ∈ z_tbl, w.before _ s = true := fun w hw => hts0 w (List.mem_cons_of_mem _ hw)
  have hown : s.vm.findClass y.cls = some m.cls := findClass_of_methodNamed B.named
  have hname : meth.name = y.name := (name_of_methodNamed B.named B.method).1
  subst hsz
  have hD := hD0.self (sz := s.heap.size)
  have hl := lv_entry (av.map (z_v ρ)) (n := nL) (by rw [z_lgsl]; exact hn)
  rw [lg_entry_eq]
  rw [z_lvargs] at hl
  refine h p e _ s m _ below meth c dC dI cA (va_A (z_W ρ cA sh M) s.heap.size) ρ _ ⟨B.exec, B.bytes, B.returns, hml, hown, hname, hts, B.notSynchronized, hK, fun q h => Or.inr h, Nat.le_refl _, Nat.le_refl _, Nat.le_refl _, Nat.le_refl _⟩ ?_ ρ s.heap [] _ hwf (fun q hq => hrk _ (z_lvargs_in _ _ _ hq)) (fun v hv => by simp at hv) (Nat.le_refl _) (fun _ _ => rfl) (Nat.zero_le _) (Nat.zero_le _) hP hD va_S.rf hl
  intro ρ' H locs pc ls r sh' M' hPost hwf' hn0 hρ hP' hD' hS' hdg hok
  have hlocks := B.notSynchronized
  have key : ∀ t : State, t.heap = H → s.WarmedH t.vm → (∀ v, r = some v → z_rk sh'.length v) → z_Q Post dC dI cA ρ sh.length (va_A (z_W ρ cA sh M) s.heap.size) (av.map (z_v ρ)).toArray s (.returned (r.map (z_v ρ'))) t := fun t ht hW hrr =>
    ⟨⟨ρ', r, sh', M', rfl, hPost, hwf', hrr, hn0, hρ, by rw [ht]; exact hP', va_K.moved hW.alike hK, hD'⟩, hS'.F ht⟩
  cases r with
  | none =>
    have hr0 : ret = none := hok
    subst hr0
    exact W.vret B.exec B.bytes B.returns (fun t ht hW => key t ht hW (fun v h => by cases h)) hS'.2.2 hdg
  | some v =>
    cases v with
    | int x =>
      obtain ⟨ty, hty, hnar⟩ := hok
      subst hty
      exact W.zret B.exec B.bytes B.returns hnar (fun t ht hW => key t ht hW (fun v h a ha => by cases h; cases ha)) hS'.2.2 hdg
    | long x =>
      have hr0 : ret = some .long := hok
      subst hr0
      exact W.lret B.exec B.bytes B.returns (fun t ht hW => key t ht hW (fun v h a ha => by cases h; cases ha)) hS'.2.2 hdg
    | _ => exact hok.elim
