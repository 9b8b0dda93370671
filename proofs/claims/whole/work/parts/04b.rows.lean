section ZW
variable {l : Launch} {y : MethodName} {cc : ByteArray} {nL : Nat} {ret : Option FieldType} {d mc ms n0 : Nat} {Post : zP} {cells slots pc : Nat} {lv lv' : List (Nat × Value)} {st : List Value} {sh : List zC} {M M1 : zM}
/-- a link of a field: class number, slot -/
def zFl (own : String) (index ci k : Nat) : Prop := ci < 12 ∧ k < z_N ci ∧ Cond.fieldLink own index (z_T ci k).1 (z_T ci k).2.1 (z_T ci k).2.2.1 ∈ z_tbl
theorem z_fsAt {ρ : Nat → Nat} {ci k o : Nat} (hk : k < z_N ci) : ((List.range (z_N ci)).map (fun k => z_f ρ (z_ty ci k) M o k))[k]? = some (z_f ρ (z_ty ci k) M o k) := by simp [hk]
theorem z_getI {ci k o index : Nat} {x : Int32} (hf : zFl y.cls index ci k) (ho : sh[o]? = some (.inl ci)) (ht : ∀ ρ, z_f ρ (z_ty ci k) M o k = .int (M.1 o k)) (hx : M.1 o k = x) (hd : decode cc pc = .ok (.getfield index, 3)) (h : zA l y cc nL ret d mc ms n0 Post cells slots (pc + 3) lv (.int x :: st) sh M) : zA l y cc nL ret d mc ms n0 Post cells slots pc lv (.ref o :: st) sh M := by
  intro p e Rm s m args below meth c dC dI cA A ρ0 Q C E ρ H locs ls hwf hlv hst hn hρ hc hs hP hD hS hl
  obtain ⟨h1, h2, h3⟩ := hf
  refine va_get (D := (dC, dI)) (ci := ci) (v := .int x) C.1 C.2.1 C.2.2.2.2.2.2.1 (z_in h1) C.2.2.2.2.1 C.2.2.2.2.2.2.2.2.1 hP o (z_W_at ho) (z_cl h1) k h2 (C.2.2.2.2.2.2.1 _ h3) (fun _ h9 => h9) ((z_fsAt h2).trans (by rw [ht, hx])) hd ?_
  exact h p e Rm s m args below meth c dC dI cA A ρ0 Q C E ρ H locs ls hwf hlv (z_cn z_rki (z_tl hst)) hn hρ hc hs hP hD hS hl
theorem z_getL {ci k o index : Nat} {x : Int64} (hf : zFl y.cls index ci k) (ho : sh[o]? = some (.inl ci)) (ht : z_ty ci k = .long) (hx : M.2.2 o k = x) (hd : decode cc pc = .ok (.getfield index, 3)) (h : zA l y cc nL ret d mc ms n0 Post cells slots (pc + 3) lv (.long x :: st) sh M) : zA l y cc nL ret d mc ms n0 Post cells slots pc lv (.ref o :: st) sh M := by
  intro p e Rm s m args below meth c dC dI cA A ρ0 Q C E ρ H locs ls hwf hlv hst hn hρ hc hs hP hD hS hl
  obtain ⟨h1, h2, h3⟩ := hf
  refine va_get (D := (dC, dI)) (ci := ci) (v := .long x) C.1 C.2.1 C.2.2.2.2.2.2.1 (z_in h1) C.2.2.2.2.1 C.2.2.2.2.2.2.2.2.1 hP o (z_W_at ho) (z_cl h1) k h2 (C.2.2.2.2.2.2.1 _ h3) (fun _ h9 => h9) ((z_fsAt h2).trans (by rw [ht, ← hx]; rfl)) hd ?_
  exact h p e Rm s m args below meth c dC dI cA A ρ0 Q C E ρ H locs ls hwf hlv (z_cn z_rkl (z_tl hst)) hn hρ hc hs hP hD hS hl
theorem z_getR {ci k o index a : Nat} (hf : zFl y.cls index ci k) (ho : sh[o]? = some (.inl ci)) (ht : ∀ ρ, z_f ρ (z_ty ci k) M o k = va_rf ((M.2.1 o k).map ρ)) (hx : M.2.1 o k = some a) (hd : decode cc pc = .ok (.getfield index, 3)) (h : z_tm sh (z_rt ci k) a → zA l y cc nL ret d mc ms n0 Post cells slots (pc + 3) lv (.ref a :: st) sh M) : zA l y cc nL ret d mc ms n0 Post cells slots pc lv (.ref o :: st) sh M := by
  intro p e Rm s m args below meth c dC dI cA A ρ0 Q C E ρ H locs ls hwf hlv hst hn hρ hc hs hP hD hS hl
  obtain ⟨h1, h2, h3⟩ := hf
  have htm := hwf o ci k a ho h2 hx
  refine va_get (D := (dC, dI)) (ci := ci) (v := .ref (ρ a)) C.1 C.2.1 C.2.2.2.2.2.2.1 (z_in h1) C.2.2.2.2.1 C.2.2.2.2.2.2.2.2.1 hP o (z_W_at ho) (z_cl h1) k h2 (C.2.2.2.2.2.2.1 _ h3) (fun _ h9 => h9) ((z_fsAt h2).trans (by rw [ht, hx]; rfl)) hd ?_
  exact h htm p e Rm s m args below meth c dC dI cA A ρ0 Q C E ρ H locs ls hwf hlv (z_cn (fun b hb => by cases hb; exact htm.lt) (z_tl hst)) hn hρ hc hs hP hD hS hl
/-- writing a field -/
theorem z_put0 {ci k o index : Nat} {v : Value} (hf : zFl y.cls index ci k) (ho : sh[o]? = some (.inl ci)) (hfin : (z_T ci k).2.2.2 = false) (hn : ∀ ρ, narrow (z_ty ci k) (z_v ρ v) = z_v ρ v) (hfit : ∀ ρ, fits (z_ty ci k) (z_v ρ v) = true)
    (h1' : ∀ i, i ≠ o → M1.1 i = M.1 i) (h2' : ∀ i, i ≠ o → M1.2.1 i = M.2.1 i) (h3' : ∀ i, i ≠ o → M1.2.2 i = M.2.2 i) (hk1 : ∀ ρ, z_f ρ (z_ty ci k) M1 o k = z_v ρ v) (hk2 : ∀ ρ j, j ≠ k → z_f ρ (z_ty ci j) M1 o j = z_f ρ (z_ty ci j) M o j) (hwf1 : z_wf sh M → z_rk sh.length v → z_wf sh M1)
    (hd : decode cc pc = .ok (.putfield index, 3)) (h : zA l y cc nL ret d mc ms n0 Post cells slots (pc + 3) lv st sh M1) : zA l y cc nL ret d mc ms n0 Post cells slots pc lv (v :: .ref o :: st) sh M := by
  intro p e Rm s m args below meth c dC dI cA A ρ0 Q C E ρ H locs ls hwf hlv hst hn0 hρ hc hs hP hD hS hl
  obtain ⟨h1, h2, h3⟩ := hf
  refine va_put (D := (dC, dI)) (ci := ci) (v := z_v ρ v) (ty := z_ty ci k) C.1 C.2.1 C.2.2.2.2.2.2.1 (z_in h1) (z_ty ci) (z_tyok h1) (z_nm h1) C.2.2.2.2.1 C.2.2.2.2.2.2.2.2.1 hP hD hS o (z_W_at ho) (z_cl h1) k h2 (C.2.2.2.2.2.2.1 _ h3) (fun _ h9 => h9) hfin (z_tyok h1 k h2) (hn ρ) (hfit ρ) (by simpa using h2) hd (fun H1 locs1 hP1 hD1 hS1 => ?_)
  have e1 : z_W ρ cA sh M1 = (z_W ρ cA sh M).set o (ρ o, .inr (ci, ((List.range (z_N ci)).map (fun k => z_f ρ (z_ty ci k) M o k)).set k (z_v ρ v))) := by
    rw [z_fs_set (g := fun j => z_f ρ (z_ty ci j) M1 o j) h2 (hk1 ρ) (hk2 ρ)]
    exact (z_W_upd (M := M) (M' := M1) ho h1' h2' h3').symm
  rw [← e1] at hP1 hD1
  exact h p e Rm s m args below meth c dC dI cA A ρ0 Q C E ρ H1 locs1 ls (hwf1 hwf (z_hd hst)) hlv (z_tl (z_tl hst)) hn0 hρ hc hs hP1 hD1 hS1 hl
theorem z_f_off {ρ : Nat → Nat} {ty : FieldType} {o j : Nat} (h1 : M1.1 o j = M.1 o j) (h2 : M1.2.1 o j = M.2.1 o j) (h3 : M1.2.2 o j = M.2.2 o j) : z_f ρ ty M1 o j = z_f ρ ty M o j := by
  unfold z_f
  rw [h1, h2, h3]
theorem z_putI {ci k o index : Nat} {x : Int32} (hf : zFl y.cls index ci k) (ho : sh[o]? = some (.inl ci)) (hfin : (z_T ci k).2.2.2 = false) (ht : z_ty ci k = .int ∨ (z_ty ci k = .boolean ∧ (x = 0 ∨ x = 1))) (hM : (zu M.1 o k x, M.2) = M1) (hd : decode cc pc = .ok (.putfield index, 3)) (h : zA l y cc nL ret d mc ms n0 Post cells slots (pc + 3) lv st sh M1) : zA l y cc nL ret d mc ms n0 Post cells slots pc lv (.int x :: .ref o :: st) sh M := by
  subst hM
  refine z_put0 (M1 := (zu M.1 o k x, M.2)) hf ho hfin ?_ ?_ (fun i hi => zu_cell _ _ _ hi) (fun _ _ => rfl) (fun _ _ => rfl) ?_ (fun ρ j hj => z_f_off (zu_ne _ _ _ hj) rfl rfl) (fun h _ => h) hd h
  · intro ρ
    rcases ht with ht | ⟨ht, rfl | rfl⟩ <;> rw [ht] <;> rfl
  · intro ρ
    rcases ht with ht | ⟨ht, rfl | rfl⟩ <;> rw [ht] <;> rfl
  · intro ρ
    rcases ht with ht | ⟨ht, _⟩ <;> rw [ht] <;> (show Value.int (zu M.1 o k x o k) = .int x; rw [zu_same])
theorem z_putL {ci k o index : Nat} {x : Int64} (hf : zFl y.cls index ci k) (ho : sh[o]? = some (.inl ci)) (hfin : (z_T ci k).2.2.2 = false) (ht : z_ty ci k = .long) (hM : (M.1, M.2.1, zu M.2.2 o k x) = M1) (hd : decode cc pc = .ok (.putfield index, 3)) (h : zA l y cc nL ret d mc ms n0 Post cells slots (pc + 3) lv st sh M1) : zA l y cc nL ret d mc ms n0 Post cells slots pc lv (.long x :: .ref o :: st) sh M := by
  subst hM
  refine z_put0 (M1 := (M.1, M.2.1, zu M.2.2 o k x)) hf ho hfin ?_ ?_ (fun _ _ => rfl) (fun _ _ => rfl) (fun i hi => zu_cell _ _ _ hi) ?_ (fun ρ j hj => z_f_off rfl rfl (zu_ne _ _ _ hj)) (fun h _ => h) hd h
  · intro ρ
    rw [ht]; rfl
  · intro ρ
    rw [ht]; rfl
  · intro ρ
    rw [ht]
    show Value.long (zu M.2.2 o k x o k) = .long x
    rw [zu_same]
theorem z_wf_putR {ci k o a : Nat} (ho : sh[o]? = some (.inl ci)) (hw : z_wf sh M) (ha : z_tm sh (z_rt ci k) a) : z_wf sh (M.1, zu M.2.1 o k (some a), M.2.2) := by
  intro i cj k' b hi hk' hb
  have hb2 : (if i = o ∧ k' = k then some a else M.2.1 i k') = some b := (zu_at M.2.1 o k i k' (some a)).symm.trans hb
  by_cases e : i = o ∧ k' = k
  · rw [if_pos e] at hb2
    have hab : a = b := Option.some.inj hb2
    rw [e.1, ho] at hi
    have hcc : ci = cj := by injection hi with h; injection h
    rw [← hab, ← hcc, e.2]
    exact ha
  · rw [if_neg e] at hb2
    exact hw i cj k' b hi hk' hb2
theorem z_putR {ci k o index a : Nat} (hf : zFl y.cls index ci k) (ho : sh[o]? = some (.inl ci)) (hfin : (z_T ci k).2.2.2 = false) (ht : (∃ C, z_ty ci k = .object C) ∨ (∃ t, z_ty ci k = .array t)) (ha : z_tm sh (z_rt ci k) a) (hM : (M.1, zu M.2.1 o k (some a), M.2.2) = M1) (hd : decode cc pc = .ok (.putfield index, 3)) (h : zA l y cc nL ret d mc ms n0 Post cells slots (pc + 3) lv st sh M1) : zA l y cc nL ret d mc ms n0 Post cells slots pc lv (.ref a :: .ref o :: st) sh M := by
  subst hM
  refine z_put0 (M1 := (M.1, zu M.2.1 o k (some a), M.2.2)) hf ho hfin ?_ ?_ (fun _ _ => rfl) (fun i hi => zu_cell _ _ _ hi) (fun _ _ => rfl) ?_ (fun ρ j hj => z_f_off rfl (zu_ne _ _ _ hj) rfl) (fun h _ => z_wf_putR ho h ha) hd h
  · intro ρ
    rcases ht with ⟨C, ht⟩ | ⟨t, ht⟩ <;> rw [ht] <;> rfl
  · intro ρ
    rcases ht with ⟨C, ht⟩ | ⟨t, ht⟩ <;> rw [ht] <;> rfl
  · intro ρ
    rcases ht with ⟨C, ht⟩ | ⟨t, ht⟩ <;> rw [ht] <;> (show va_rf ((zu M.2.1 o k (some a) o k).map ρ) = .ref (ρ a); rw [zu_same]; rfl)
/-- writing a final field, in a constructor -/
theorem z_putF {ci k o index a : Nat} (hf : zFl y.cls index ci k) (ho : sh[o]? = some (.inl ci)) (hfin : (z_T ci k).2.2.2 = true) (hy : y.name = "<init>") (hdc : (z_T ci k).1 = y.cls) (ht : (∃ C, z_ty ci k = .object C) ∨ (∃ t, z_ty ci k = .array t)) (ha : z_tm sh (z_rt ci k) a) (hM : (M.1, zu M.2.1 o k (some a), M.2.2) = M1) (hd : decode cc pc = .ok (.putfield index, 3)) (h : zA l y cc nL ret d mc ms n0 Post cells slots (pc + 3) lv st sh M1) : zA l y cc nL ret d mc ms n0 Post cells slots pc lv (.ref a :: .ref o :: st) sh M := by
  subst hM
  intro p e Rm s m args below meth c dC dI cA A ρ0 Q C E ρ H locs ls hwf hlv hst hn0 hρ hc hs hP hD hS hl
  obtain ⟨h1, h2, h3⟩ := hf
  refine va_putF (D := (dC, dI)) (ci := ci) (v := .ref (ρ a)) (ty := z_ty ci k) C.1 C.2.1 C.2.2.2.2.2.2.1 (z_in h1) (z_ty ci) (z_tyok h1) (z_nm h1) C.2.2.2.2.1 C.2.2.2.2.2.2.2.2.1 hP hD hS o (z_W_at ho) (z_cl h1) k h2 (C.2.2.2.2.2.2.1 _ h3) (fun _ h9 => h9) hfin (C.2.2.2.2.2.1.trans hy) hdc (z_tyok h1 k h2) (by rcases ht with ⟨C, ht⟩ | ⟨t, ht⟩ <;> rw [ht] <;> rfl) (by rcases ht with ⟨C, ht⟩ | ⟨t, ht⟩ <;> rw [ht] <;> rfl) (by simpa using h2) hd (fun H1 locs1 hP1 hD1 hS1 => ?_)
  have k1 : z_f ρ (z_ty ci k) (M.1, zu M.2.1 o k (some a), M.2.2) o k = .ref (ρ a) := by
    rcases ht with ⟨C, ht⟩ | ⟨t, ht⟩ <;> rw [ht] <;> (show va_rf ((zu M.2.1 o k (some a) o k).map ρ) = .ref (ρ a); rw [zu_same]; rfl)
  have e1 : z_W ρ cA sh (M.1, zu M.2.1 o k (some a), M.2.2) = (z_W ρ cA sh M).set o (ρ o, .inr (ci, ((List.range (z_N ci)).map (fun k => z_f ρ (z_ty ci k) M o k)).set k (.ref (ρ a)))) := by
    rw [z_fs_set (f := fun k => z_f ρ (z_ty ci k) M o k) (g := fun j => z_f ρ (z_ty ci j) (M.1, zu M.2.1 o k (some a), M.2.2) o j) h2 k1 (fun j hj => z_f_off rfl (zu_ne _ _ _ hj) rfl)]
    exact (z_W_upd (M := M) (M' := (M.1, zu M.2.1 o k (some a), M.2.2)) ho (fun _ _ => rfl) (fun i hi => zu_cell _ _ _ hi) (fun _ _ => rfl)).symm
  rw [← e1] at hP1 hD1
  exact h p e Rm s m args below meth c dC dI cA A ρ0 Q C E ρ H1 locs1 ls (z_wf_putR ho hwf ha) hlv (z_tl (z_tl hst)) hn0 hρ hc hs hP1 hD1 hS1 hl
-- arrays
def z_ix (i : Int32) (n : Nat) : Bool := decide (0 ≤ i.toInt) && decide (i.toInt < n)
theorem z_ix_in {i : Int32} {n : Nat} (h : z_ix i n = true) : vp_in i n := by
  simp only [z_ix, Bool.and_eq_true, decide_eq_true_eq] at h
  exact vp_in_iff.mpr h
/-- the length of an array of the world -/
def z_ln (sh : List zC) (a : Nat) : Nat := match sh[a]? with
  | some (.inr (_, n)) => n
  | _ => 0
theorem z_ln_of {t a : Nat} (h : z_tm sh t a) (ht : ¬ t < 12) : sh[a]? = some (.inr (t - 100, z_ln sh a)) := by
  rcases h with ⟨h, _⟩ | ⟨_, n, h⟩
  · exact absurd h ht
  · rw [h, z_ln, h]
theorem z_ob_of {t a : Nat} (h : z_tm sh t a) (ht : t < 12) : sh[a]? = some (.inl t) := by
  rcases h with ⟨_, h⟩ | ⟨h, _⟩
  · exact h
  · exact absurd ht (by omega)
theorem zu_self {α : Type} (f : Nat → Nat → α) (c j : Nat) (v : α) : zu f c j v c = va_up (f c) j v := by simp [zu, va_up]
theorem z_iald {a : Nat} {i x : Int32} (ha : z_tm sh 100 a) (hi : z_ix i (z_ln sh a) = true) (hx : M.1 a i.toNatClampNeg = x) (hd : decode cc pc = .ok (.iaload, 1)) (h : zA l y cc nL ret d mc ms n0 Post cells slots (pc + 1) lv (.int x :: st) sh M) : zA l y cc nL ret d mc ms n0 Post cells slots pc lv (.int i :: .ref a :: st) sh M := by
  subst hx
  intro p e Rm s m args below meth c dC dI cA A ρ0 Q C E ρ H locs ls hwf hlv hst hn hρ hc hs hP hD hS hl
  exact va_iald C.1 C.2.1 C.2.2.2.2.2.2.2.2.1 hP a 0 (z_W_at (z_ln_of ha (by decide))) rfl (z_ix_in hi) hd (h p e Rm s m args below meth c dC dI cA A ρ0 Q C E ρ H locs ls hwf hlv (z_cn z_rki (z_tl (z_tl hst))) hn hρ hc hs hP hD hS hl)
theorem z_bald {a : Nat} {i x : Int32} (ha : z_tm sh 101 a) (hi : z_ix i (z_ln sh a) = true) (hx : M.1 a i.toNatClampNeg = x) (hd : decode cc pc = .ok (.baload, 1)) (h : zA l y cc nL ret d mc ms n0 Post cells slots (pc + 1) lv (.int x :: st) sh M) : zA l y cc nL ret d mc ms n0 Post cells slots pc lv (.int i :: .ref a :: st) sh M := by
  subst hx
  intro p e Rm s m args below meth c dC dI cA A ρ0 Q C E ρ H locs ls hwf hlv hst hn hρ hc hs hP hD hS hl
  exact va_bald C.1 C.2.1 C.2.2.2.2.2.2.2.2.1 hP a 1 (z_W_at (z_ln_of ha (by decide))) rfl (z_ix_in hi) hd (h p e Rm s m args below meth c dC dI cA A ρ0 Q C E ρ H locs ls hwf hlv (z_cn z_rki (z_tl (z_tl hst))) hn hρ hc hs hP hD hS hl)
theorem z_lald {a : Nat} {i : Int32} {x : Int64} (ha : z_tm sh 102 a) (hi : z_ix i (z_ln sh a) = true) (hx : M.2.2 a i.toNatClampNeg = x) (hd : decode cc pc = .ok (.laload, 1)) (h : zA l y cc nL ret d mc ms n0 Post cells slots (pc + 1) lv (.long x :: st) sh M) : zA l y cc nL ret d mc ms n0 Post cells slots pc lv (.int i :: .ref a :: st) sh M := by
  subst hx
  intro p e Rm s m args below meth c dC dI cA A ρ0 Q C E ρ H locs ls hwf hlv hst hn hρ hc hs hP hD hS hl
  exact va_lald C.1 C.2.1 C.2.2.2.2.2.2.2.2.1 hP a 2 (z_W_at (z_ln_of ha (by decide))) rfl (z_ix_in hi) hd (h p e Rm s m args below meth c dC dI cA A ρ0 Q C E ρ H locs ls hwf hlv (z_cn z_rkl (z_tl (z_tl hst))) hn hρ hc hs hP hD hS hl)
theorem z_alen {a : Nat} {x : Int32} (ha : z_tm sh 100 a) (hx : Int32.ofNat (z_ln sh a) = x) (hd : decode cc pc = .ok (.arraylength, 1)) (h : zA l y cc nL ret d mc ms n0 Post cells slots (pc + 1) lv (.int x :: st) sh M) : zA l y cc nL ret d mc ms n0 Post cells slots pc lv (.ref a :: st) sh M := by
  intro p e Rm s m args below meth c dC dI cA A ρ0 Q C E ρ H locs ls hwf hlv hst hn hρ hc hs hP hD hS hl
  exact va_alen C.1 C.2.1 C.2.2.2.2.2.2.2.2.1 hP a 0 (z_W_at (z_ln_of ha (by decide))) (ty := .int) rfl hx hd (h p e Rm s m args below meth c dC dI cA A ρ0 Q C E ρ H locs ls hwf hlv (z_cn z_rki (z_tl hst)) hn hρ hc hs hP hD hS hl)
theorem z_iast {a : Nat} {i x : Int32} (ha : z_tm sh 100 a) (hi : z_ix i (z_ln sh a) = true) (hM : (zu M.1 a i.toNatClampNeg x, M.2) = M1) (hd : decode cc pc = .ok (.iastore, 1)) (h : zA l y cc nL ret d mc ms n0 Post cells slots (pc + 1) lv st sh M1) : zA l y cc nL ret d mc ms n0 Post cells slots pc lv (.int x :: .int i :: .ref a :: st) sh M := by
  subst hM
  intro p e Rm s m args below meth c dC dI cA A ρ0 Q C E ρ H locs ls hwf hlv hst hn hρ hc hs hP hD hS hl
  refine va_iast C.1 C.2.1 C.2.2.2.2.2.2.2.2.1 hP hD hS a 0 (z_W_at (z_ln_of ha (by decide))) rfl (z_ix_in hi) hd (fun H1 locs1 hP1 hD1 hS1 => ?_)
  have e1 : z_W ρ cA sh (zu M.1 a i.toNatClampNeg x, M.2) = (z_W ρ cA sh M).set a (ρ a, .inl (cA 0, z_ln sh a, .inl (upd (M.1 a) i.toNatClampNeg x))) := by
    rw [show upd (M.1 a) i.toNatClampNeg x = zu M.1 a i.toNatClampNeg x a from (zu_self _ _ _ _).symm]
    exact (z_W_upd (M := M) (M' := (zu M.1 a i.toNatClampNeg x, M.2)) (z_ln_of ha (by decide)) (fun i hi => zu_cell _ _ _ hi) (fun _ _ => rfl) (fun _ _ => rfl)).symm
  rw [← e1] at hP1 hD1
  exact h p e Rm s m args below meth c dC dI cA A ρ0 Q C E ρ H1 locs1 ls hwf hlv (z_tl (z_tl (z_tl hst))) hn hρ hc hs hP1 hD1 hS1 hl
theorem z_bast {a : Nat} {i x : Int32} (ha : z_tm sh 101 a) (hi : z_ix i (z_ln sh a) = true) (hM : (zu M.1 a i.toNatClampNeg x.toInt8.toInt32, M.2) = M1) (hd : decode cc pc = .ok (.bastore, 1)) (h : zA l y cc nL ret d mc ms n0 Post cells slots (pc + 1) lv st sh M1) : zA l y cc nL ret d mc ms n0 Post cells slots pc lv (.int x :: .int i :: .ref a :: st) sh M := by
  subst hM
  intro p e Rm s m args below meth c dC dI cA A ρ0 Q C E ρ H locs ls hwf hlv hst hn hρ hc hs hP hD hS hl
  refine va_bast C.1 C.2.1 C.2.2.2.2.2.2.2.2.1 hP hD hS a 1 (z_W_at (z_ln_of ha (by decide))) rfl (z_ix_in hi) hd (fun H1 locs1 hP1 hD1 hS1 => ?_)
  have e1 : z_W ρ cA sh (zu M.1 a i.toNatClampNeg x.toInt8.toInt32, M.2) = (z_W ρ cA sh M).set a (ρ a, .inl (cA 1, z_ln sh a, .inl (upd (M.1 a) i.toNatClampNeg (vp_nar .byte x)))) := by
    rw [vp_nar_byte]
    rw [show upd (M.1 a) i.toNatClampNeg x.toInt8.toInt32 = zu M.1 a i.toNatClampNeg x.toInt8.toInt32 a from (zu_self _ _ _ _).symm]
    exact (z_W_upd (M := M) (M' := (zu M.1 a i.toNatClampNeg x.toInt8.toInt32, M.2)) (z_ln_of ha (by decide)) (fun i hi => zu_cell _ _ _ hi) (fun _ _ => rfl) (fun _ _ => rfl)).symm
  rw [← e1] at hP1 hD1
  exact h p e Rm s m args below meth c dC dI cA A ρ0 Q C E ρ H1 locs1 ls hwf hlv (z_tl (z_tl (z_tl hst))) hn hρ hc hs hP1 hD1 hS1 hl
theorem z_last {a : Nat} {i : Int32} {x : Int64} (ha : z_tm sh 102 a) (hi : z_ix i (z_ln sh a) = true) (hM : (M.1, M.2.1, zu M.2.2 a i.toNatClampNeg x) = M1) (hd : decode cc pc = .ok (.lastore, 1)) (h : zA l y cc nL ret d mc ms n0 Post cells slots (pc + 1) lv st sh M1) : zA l y cc nL ret d mc ms n0 Post cells slots pc lv (.long x :: .int i :: .ref a :: st) sh M := by
  subst hM
  intro p e Rm s m args below meth c dC dI cA A ρ0 Q C E ρ H locs ls hwf hlv hst hn hρ hc hs hP hD hS hl
  refine va_last C.1 C.2.1 C.2.2.2.2.2.2.2.2.1 hP hD hS a 2 (z_W_at (z_ln_of ha (by decide))) rfl (z_ix_in hi) hd (fun H1 locs1 hP1 hD1 hS1 => ?_)
  have e1 : z_W ρ cA sh (M.1, M.2.1, zu M.2.2 a i.toNatClampNeg x) = (z_W ρ cA sh M).set a (ρ a, .inl (cA 2, z_ln sh a, .inr (.inl (vp_updL (M.2.2 a) i.toNatClampNeg x)))) := by
    rw [show vp_updL (M.2.2 a) i.toNatClampNeg x = zu M.2.2 a i.toNatClampNeg x a from (zu_self _ _ _ _).symm]
    exact (z_W_upd (M := M) (M' := (M.1, M.2.1, zu M.2.2 a i.toNatClampNeg x)) (z_ln_of ha (by decide)) (fun _ _ => rfl) (fun _ _ => rfl) (fun i hi => zu_cell _ _ _ hi)).symm
  rw [← e1] at hP1 hD1
  exact h p e Rm s m args below meth c dC dI cA A ρ0 Q C E ρ H1 locs1 ls hwf hlv (z_tl (z_tl (z_tl hst))) hn hρ hc hs hP1 hD1 hS1 hl
-- the end
theorem z_iret {x : Int32} (hp : Post (some (.int x)) sh M) (hr : ret = some .int ∨ (ret = some .boolean ∧ (x = 0 ∨ x = 1))) (hd : decode cc pc = .ok (.ireturn, 1)) : zA l y cc nL ret d mc ms n0 Post cells slots pc lv [.int x] sh M := by
  intro p e Rm s m args below meth c dC dI cA A ρ0 Q C E ρ H locs ls hwf hlv hst hn hρ hc hs hP hD hS hl
  refine W.widen hc hs (E ρ H locs pc ls (some (.int x)) sh M hp hwf hn hρ hP hD hS hd ?_)
  rcases hr with hr | ⟨hr, rfl | rfl⟩
  · exact ⟨.int, hr, rfl⟩
  · exact ⟨.boolean, hr, rfl⟩
  · exact ⟨.boolean, hr, rfl⟩
theorem z_lret {x : Int64} (hp : Post (some (.long x)) sh M) (hr : ret = some .long) (hd : decode cc pc = .ok (.lreturn, 1)) : zA l y cc nL ret d mc ms n0 Post cells slots pc lv [.long x] sh M := by
  intro p e Rm s m args below meth c dC dI cA A ρ0 Q C E ρ H locs ls hwf hlv hst hn hρ hc hs hP hD hS hl
  exact W.widen hc hs (E ρ H locs pc ls (some (.long x)) sh M hp hwf hn hρ hP hD hS hd hr)
theorem z_vret (hp : Post none sh M) (hr : ret = none) (hd : decode cc pc = .ok (.return_, 1)) : zA l y cc nL ret d mc ms n0 Post cells slots pc lv [] sh M := by
  intro p e Rm s m args below meth c dC dI cA A ρ0 Q C E ρ H locs ls hwf hlv hst hn hρ hc hs hP hD hS hl
  exact W.widen hc hs (E ρ H locs pc ls none sh M hp hwf hn hρ hP hD hS hd hr)
end ZW
