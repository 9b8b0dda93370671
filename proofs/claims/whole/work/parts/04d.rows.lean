section ZX
variable {l : Launch} {y : MethodName} {cc : ByteArray} {nL : Nat} {ret : Option FieldType} {d mc ms n0 : Nat} {Post : zP} {cells slots pc : Nat} {lv lv' : List (Nat × Value)} {st : List Value} {sh : List zC} {M M1 : zM}
theorem z_istore_n' {k : Fin 4} {i : Nat} {x x' : Int32} (hk : (k : Nat) = i) (hd : decode cc pc = .ok (.istore_n k, 1)) (hi : i < nL) (hx : x = x') (hl' : zs lv i (.int x') = lv') (h : zA l y cc nL ret d mc ms n0 Post cells slots (pc + 1) lv' st sh M) : zA l y cc nL ret d mc ms n0 Post cells slots pc lv (.int x :: st) sh M := z_istore_n hk hd hi (by rw [hx]; exact hl') h
theorem z_istore' {i : Nat} {x x' : Int32} (hd : decode cc pc = .ok (.istore i, 2)) (hi : i < nL) (hx : x = x') (hl' : zs lv i (.int x') = lv') (h : zA l y cc nL ret d mc ms n0 Post cells slots (pc + 2) lv' st sh M) : zA l y cc nL ret d mc ms n0 Post cells slots pc lv (.int x :: st) sh M := z_istore hd hi (by rw [hx]; exact hl') h
theorem z_lstore_n' {k : Fin 4} {i : Nat} {x x' : Int64} (hk : (k : Nat) = i) (hd : decode cc pc = .ok (.lstore_n k, 1)) (hi : i + 1 < nL) (hx : x = x') (hl' : zs2 lv i (.long x') = lv') (h : zA l y cc nL ret d mc ms n0 Post cells slots (pc + 1) lv' st sh M) : zA l y cc nL ret d mc ms n0 Post cells slots pc lv (.long x :: st) sh M := z_lstore_n hk hd hi (by rw [hx]; exact hl') h
theorem z_lstore' {i : Nat} {x x' : Int64} (hd : decode cc pc = .ok (.lstore i, 2)) (hi : i + 1 < nL) (hx : x = x') (hl' : zs2 lv i (.long x') = lv') (h : zA l y cc nL ret d mc ms n0 Post cells slots (pc + 2) lv' st sh M) : zA l y cc nL ret d mc ms n0 Post cells slots pc lv (.long x :: st) sh M := z_lstore hd hi (by rw [hx]; exact hl') h
theorem z_astore_n' {k : Fin 4} {i : Nat} {x x' : Nat} (hk : (k : Nat) = i) (hd : decode cc pc = .ok (.astore_n k, 1)) (hi : i < nL) (hx : x = x') (hl' : zs lv i (.ref x') = lv') (h : zA l y cc nL ret d mc ms n0 Post cells slots (pc + 1) lv' st sh M) : zA l y cc nL ret d mc ms n0 Post cells slots pc lv (.ref x :: st) sh M := z_astore_n hk hd hi (by rw [hx]; exact hl') h
theorem z_iinc' {i : Nat} {n : Int} {x w v : Int32} (hd : decode cc pc = .ok (.iinc i n, 3)) (hg : zg lv i = some (.int x)) (hn : Int32.ofInt n = w) (hv : x + w = v) (hi : i < nL) (hl' : zs lv i (.int v) = lv') (h : zA l y cc nL ret d mc ms n0 Post cells slots (pc + 3) lv' st sh M) : zA l y cc nL ret d mc ms n0 Post cells slots pc lv st sh M := z_iinc hd hg (by rw [hn]; exact hv) hi hl' h
theorem z_tabD {dflt lo hi : Int} {offs : Array Int} {len tgt : Nat} {x : Int32} (hd : decode cc pc = .ok (.tableswitch dflt lo hi offs, len)) (ks : List Int) (hne : ∀ k ∈ ks, ¬ x.toInt = k) (hcov : (List.range (hi - lo + 1).toNat).all (fun j => decide (lo + (j : Int) ∈ ks) || decide (offs[j]? = some dflt)) = true) (hg : (pc : Int) + dflt = (tgt : Int)) (h : zA l y cc nL ret d mc ms n0 Post cells slots tgt lv st sh M) : zA l y cc nL ret d mc ms n0 Post cells slots pc lv (.int x :: st) sh M := by
  by_cases h1 : x.toInt < lo
  · exact z_tabOut hd (Or.inl h1) hg h
  by_cases h2 : hi < x.toInt
  · exact z_tabOut hd (Or.inr h2) hg h
  have hj : (x.toInt - lo).toNat ∈ List.range (hi - lo + 1).toNat := by
    rw [List.mem_range]
    omega
  have hc := List.all_eq_true.mp hcov _ hj
  rcases (Bool.or_eq_true _ _).mp hc with hc | hc
  · have hc := of_decide_eq_true hc
    exact absurd (by omega) (hne _ hc)
  · exact z_tabIn hd h1 h2 (of_decide_eq_true hc) hg h
theorem zgI {ci k o index : Nat} (hf : zFl y.cls index ci k) (ho : z_tm sh ci o) (ht : ∀ ρ, z_f ρ (z_ty ci k) M o k = .int (M.1 o k)) (hd : decode cc pc = .ok (.getfield index, 3)) (h : zA l y cc nL ret d mc ms n0 Post cells slots (pc + 3) lv (.int (M.1 o k) :: st) sh M) : zA l y cc nL ret d mc ms n0 Post cells slots pc lv (.ref o :: st) sh M := z_getI hf (z_ob_of ho hf.1) ht rfl hd h
theorem zgL {ci k o index : Nat} (hf : zFl y.cls index ci k) (ho : z_tm sh ci o) (ht : z_ty ci k = .long) (hd : decode cc pc = .ok (.getfield index, 3)) (h : zA l y cc nL ret d mc ms n0 Post cells slots (pc + 3) lv (.long (M.2.2 o k) :: st) sh M) : zA l y cc nL ret d mc ms n0 Post cells slots pc lv (.ref o :: st) sh M := z_getL hf (z_ob_of ho hf.1) ht rfl hd h
theorem zgR {ci k o index a : Nat} (hf : zFl y.cls index ci k) (ho : z_tm sh ci o) (ht : ∀ ρ, z_f ρ (z_ty ci k) M o k = va_rf ((M.2.1 o k).map ρ)) (hx : M.2.1 o k = some a) (hd : decode cc pc = .ok (.getfield index, 3)) (h : z_tm sh (z_rt ci k) a → zA l y cc nL ret d mc ms n0 Post cells slots (pc + 3) lv (.ref a :: st) sh M) : zA l y cc nL ret d mc ms n0 Post cells slots pc lv (.ref o :: st) sh M := z_getR hf (z_ob_of ho hf.1) ht hx hd h
theorem zpI {ci k o index : Nat} {x : Int32} (hf : zFl y.cls index ci k) (ho : z_tm sh ci o) (hfin : (z_T ci k).2.2.2 = false) (ht : z_ty ci k = .int ∨ (z_ty ci k = .boolean ∧ (x = 0 ∨ x = 1))) (hM : (zu M.1 o k x, M.2) = M1) (hd : decode cc pc = .ok (.putfield index, 3)) (h : zA l y cc nL ret d mc ms n0 Post cells slots (pc + 3) lv st sh M1) : zA l y cc nL ret d mc ms n0 Post cells slots pc lv (.int x :: .ref o :: st) sh M := z_putI hf (z_ob_of ho hf.1) hfin ht hM hd h
theorem zpL {ci k o index : Nat} {x : Int64} (hf : zFl y.cls index ci k) (ho : z_tm sh ci o) (hfin : (z_T ci k).2.2.2 = false) (ht : z_ty ci k = .long) (hM : (M.1, M.2.1, zu M.2.2 o k x) = M1) (hd : decode cc pc = .ok (.putfield index, 3)) (h : zA l y cc nL ret d mc ms n0 Post cells slots (pc + 3) lv st sh M1) : zA l y cc nL ret d mc ms n0 Post cells slots pc lv (.long x :: .ref o :: st) sh M := z_putL hf (z_ob_of ho hf.1) hfin ht hM hd h
theorem zpR {ci k o index a : Nat} (hf : zFl y.cls index ci k) (ho : z_tm sh ci o) (hfin : (z_T ci k).2.2.2 = false) (ht : (∃ C, z_ty ci k = .object C) ∨ (∃ t, z_ty ci k = .array t)) (ha : z_tm sh (z_rt ci k) a) (hM : (M.1, zu M.2.1 o k (some a), M.2.2) = M1) (hd : decode cc pc = .ok (.putfield index, 3)) (h : zA l y cc nL ret d mc ms n0 Post cells slots (pc + 3) lv st sh M1) : zA l y cc nL ret d mc ms n0 Post cells slots pc lv (.ref a :: .ref o :: st) sh M := z_putR hf (z_ob_of ho hf.1) hfin ht ha hM hd h
end ZX
-- the words of the pure functions
def zF : Nat := 1000
def zl {α β : Type} (x : α) (f : α → β) : β := f x
theorem zl_some {α β : Type} {x : α} {f : α → Option β} {r : β} (h : zl x f = some r) : ∃ y, x = y ∧ f y = some r := ⟨x, rfl, h⟩
def z_rd {β : Type} (x : Option Nat) (f : Nat → Option β) : Option β := match x with
  | none => none
  | some a => f a
theorem z_rd_some {β : Type} {x : Option Nat} {f : Nat → Option β} {r : β} (h : z_rd x f = some r) : ∃ a, x = some a ∧ f a = some r := by
  cases x with
  | none => cases h
  | some a => exact ⟨a, rfl, h⟩
def z_call {α β : Type} (x : Option (α × zM)) (f : α → zM → Option β) : Option β := match x with
  | none => none
  | some r => f r.1 r.2
theorem z_call_some {α β : Type} {x : Option (α × zM)} {f : α → zM → Option β} {r : β} (h : z_call x f = some r) : ∃ v M1, x = some (v, M1) ∧ f v M1 = some r := by
  cases x with
  | none => cases h
  | some a => exact ⟨a.1, a.2, rfl, h⟩
theorem z_ifs {β : Type} {c : Prop} {hd : Decidable c} {a : Option β} {r : β} (h : (if c then a else none) = some r) : c ∧ a = some r := by
  by_cases hc : c
  · rw [if_pos hc] at h; exact ⟨hc, h⟩
  · rw [if_neg hc] at h; cases h
/-- the cells of the world, once both objects are made -/
def SH : List zC := [.inl 10, .inl 9, .inr (0, 260),
  .inl 8, .inr (0, 24), .inr (0, 24), .inr (0, 24), .inr (0, 576), .inr (0, 24),
  .inl 8, .inr (0, 24), .inr (0, 24), .inr (0, 24), .inr (0, 576), .inr (0, 24),
  .inl 8, .inr (0, 24), .inr (0, 24), .inr (0, 24), .inr (0, 576), .inr (0, 24),
  .inl 4, .inr (0, 240), .inr (0, 240), .inr (0, 16), .inr (0, 16), .inr (0, 16), .inr (0, 16), .inr (0, 15),
  .inl 4, .inr (0, 240), .inr (0, 240), .inr (0, 16), .inr (0, 16), .inr (0, 16), .inr (0, 16), .inr (0, 15),
  .inl 0, .inl 5, .inl 6, .inl 2, .inr (0, 24), .inr (0, 24), .inl 7, .inr (0, 4), .inr (0, 4), .inr (0, 4),
  .inl 1, .inr (0, 6), .inr (0, 6), .inr (0, 6), .inr (0, 6), .inl 3, .inr (0, 24),
  .inl 11, .inr (0, 699), .inr (0, 699), .inr (0, 699), .inr (1, 260), .inr (0, 260), .inr (0, 260), .inr (0, 16), .inr (0, 16), .inr (0, 16), .inr (0, 16), .inr (0, 260), .inr (0, 16), .inr (0, 16), .inr (0, 16), .inr (0, 16), .inr (0, 260), .inr (0, 8), .inr (0, 24), .inr (0, 24), .inr (2, 24), .inr (2, 24), .inr (0, 6), .inr (0, 6), .inr (0, 6), .inr (0, 72), .inr (0, 20)]
