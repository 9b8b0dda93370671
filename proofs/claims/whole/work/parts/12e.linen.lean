/-! linen: rounds of a permutation -/
def it (f : Nat → Nat) : Nat → Nat → Nat
  | 0, i => i
  | k + 1, i => f (it f k i)
theorem it_s {f : Nat → Nat} {k i : Nat} : it f (k + 1) i = f (it f k i) := rfl
theorem it_add {f : Nat → Nat} {b i : Nat} : ∀ a, it f (a + b) i = it f a (it f b i) := by
  intro a
  induction a with
  | zero => rw [Nat.zero_add]; rfl
  | succ a ih => rw [show a + 1 + b = (a + b) + 1 by omega, it_s, it_s, ih]
def PM (f : Nat → Nat) (n : Nat) : Prop := (∀ i, i < n → f i < n) ∧ (∀ i j, i < n → j < n → f i = f j → i = j)
theorem it_lt {f : Nat → Nat} {n i : Nat} (h : PM f n) (hi : i < n) : ∀ k, it f k i < n := by
  intro k
  induction k with
  | zero => exact hi
  | succ k ih => exact h.1 _ ih
theorem it_inj {f : Nat → Nat} {n i j : Nat} (h : PM f n) (hi : i < n) (hj : j < n) : ∀ k, it f k i = it f k j → i = j := by
  intro k
  induction k with
  | zero => exact fun e => e
  | succ k ih => exact fun e => ih (h.2 _ _ (it_lt h hi k) (it_lt h hj k) e)
theorem inj_ct {g : Nat → Nat} {n : Nat} : ∀ L (P : Nat → Bool), (∀ k, k < L → g k < n ∧ P (g k) = true) → (∀ a b, a < b → b < L → g a ≠ g b) → L ≤ ct P n := by
  intro L
  induction L with
  | zero => intro P _ _; exact Nat.zero_le _
  | succ L ih =>
    intro P h1 h2
    have h3 := ih (fun q => P q && decide (q ≠ g L)) (fun k hk => ⟨(h1 k (by omega)).1, by
      have := h2 k L hk (by omega)
      simp [(h1 k (by omega)).2, this]⟩) (fun a b hab hb => h2 a b hab (by omega))
    have h4 := ct_lt (P := fun q => P q && decide (q ≠ g L)) (Q := P) (n := n) (k := g L) (fun k _ hk => by
      simp at hk; exact hk.1) (h1 L (by omega)).1 (h1 L (by omega)).2 (by simp)
    omega
def PS (f : Nat → Nat) (n i L : Nat) : Prop := 1 ≤ L ∧ L ≤ n ∧ it f L i = i ∧ ∀ k, 1 ≤ k → k < L → it f k i ≠ i
theorem per_ex {f : Nat → Nat} {n i : Nat} (h : PM f n) (hi : i < n) : ∃ L, PS f n i L := by
  have he : ∃ d, d < n + 1 ∧ (1 ≤ d ∧ it f d i = i) := by
    apply Classical.byContradiction
    intro hc
    have := inj_ct (g := fun k => it f k i) (n := n) (n + 1) (fun _ => true) (fun k _ => ⟨it_lt h hi k, rfl⟩) (fun a b hab hb e => by
      refine hc ⟨b - a, by omega, by omega, ?_⟩
      have e2 : it f a i = it f a (it f (b - a) i) := by
        rw [← it_add, show a + (b - a) = b by omega]; exact e
      exact (it_inj h hi (it_lt h hi _) a e2).symm)
    have h2 := ct_le (fun _ => true) n
    omega
  obtain ⟨d, d1, d2, d3⟩ := first_c (P := fun d => 1 ≤ d ∧ it f d i = i) (n + 1) he
  exact ⟨d, d2.1, by omega, d2.2, fun k k1 k2 e => d3 k k2 ⟨k1, e⟩⟩
theorem per_fn {f : Nat → Nat} {n : Nat} (h : PM f n) : ∃ L : Nat → Nat, ∀ i, i < n → PS f n i (L i) := by
  refine ⟨fun i => if hi : i < n then Classical.choose (per_ex h hi) else 0, fun i hi => ?_⟩
  show PS f n i (if hi : i < n then Classical.choose (per_ex h hi) else 0)
  rw [dif_pos hi]
  exact Classical.choose_spec (per_ex h hi)
theorem it_mul {f : Nat → Nat} {n i L : Nat} (h : PS f n i L) : ∀ m, it f (m * L) i = i := by
  intro m
  induction m with
  | zero => rw [Nat.zero_mul]; rfl
  | succ m ih => rw [Nat.add_mul, Nat.one_mul, it_add, h.2.2.1, ih]
theorem it_mod {f : Nat → Nat} {n i L : Nat} (h : PS f n i L) (k : Nat) : it f k i = it f (k % L) i := by
  have := Nat.div_add_mod k L
  rw [Nat.mul_comm] at this
  conv => lhs; rw [← this, Nat.add_comm, it_add, it_mul h]
theorem or_sym {f : Nat → Nat} {n i L k : Nat} (h : PS f n i L) : ∃ m, it f m (it f k i) = i := by
  have hm : k % L < L := Nat.mod_lt _ (by have := h.1; omega)
  refine ⟨L - k % L, ?_⟩
  rw [it_mod h k, ← it_add, show L - k % L + k % L = L by omega]
  exact h.2.2.1
theorem ps_le {f : Nat → Nat} {n i j L L' k : Nat} (h : PS f n i L) (h' : PS f n j L') (e : j = it f k i) : L' ≤ L := by
  have e2 : it f L j = j := by
    rw [e, ← it_add, Nat.add_comm, it_add, h.2.2.1]
  apply Classical.byContradiction
  intro hc
  exact h'.2.2.2 L h.1 (by omega) e2
theorem ps_eq {f : Nat → Nat} {n i j L L' k : Nat} (h : PS f n i L) (h' : PS f n j L') (e : j = it f k i) : L = L' := by
  obtain ⟨m, hm⟩ := or_sym (k := k) h
  rw [← e] at hm
  have h1 := ps_le h h' e
  have h2 := ps_le h' h hm.symm
  omega
def lead (f : Nat → Nat) (n r : Nat) : Bool := decide (∀ k, k < n → r ≤ it f k r)
theorem lead_all {f : Nat → Nat} {n r L : Nat} (h : PS f n r L) (hl : lead f n r = true) (k : Nat) : r ≤ it f k r := by
  have := of_decide_eq_true hl
  rw [it_mod h k]
  exact this (k % L) (by have := Nat.mod_lt k (show L > 0 from h.1); have := h.2.1; omega)
def wk (L : Nat → Nat) : Nat → Nat
  | 0 => 1
  | r + 1 => wk L r / Nat.gcd (wk L r) (L r) * L r
def rdn (f : Nat → Nat) (n : Nat) : Nat → Nat
  | 0 => 0
  | r + 1 => rdn f n r + if lead f n r then 1 else 0
noncomputable def sS (f : Nat → Nat) (r : Nat) : Nat → Bool := fun q => @decide (∃ j, j < r ∧ ∃ k, it f k j = q) (Classical.propDecidable _)
theorem sS_t {f : Nat → Nat} {r q : Nat} : sS f r q = true ↔ ∃ j, j < r ∧ ∃ k, it f k j = q := by
  unfold sS
  exact @decide_eq_true_iff _ (Classical.propDecidable _)
noncomputable def oS (f : Nat → Nat) (r : Nat) : Nat → Bool := fun q => @decide (∃ k, it f k r = q) (Classical.propDecidable _)
theorem oS_t {f : Nat → Nat} {r q : Nat} : oS f r q = true ↔ ∃ k, it f k r = q := by
  unfold oS
  exact @decide_eq_true_iff _ (Classical.propDecidable _)
/-- not the lowest of its round: an earlier one has it -/
theorem nlead {f L : Nat → Nat} {n r : Nat} (hP : ∀ i, i < n → PS f n i (L i)) (hr : r < n) : lead f n r = false ↔ ∃ j, j < r ∧ ∃ k, it f k j = r := by
  constructor
  · intro hl
    have h1 := of_decide_eq_false hl
    apply Classical.byContradiction
    intro hc
    refine h1 (fun k hk => ?_)
    apply Classical.byContradiction
    intro h2
    obtain ⟨m, hm⟩ := or_sym (k := k) (hP r hr)
    exact hc ⟨it f k r, by omega, m, hm⟩
  · intro ⟨j, j1, k, hk⟩
    cases hl : lead f n r with
    | false => rfl
    | true =>
      exfalso
      obtain ⟨m, hm⟩ := or_sym (k := k) (hP j (by omega))
      rw [hk] at hm
      have := lead_all (hP r hr) hl m
      omega
theorem wk_dvd {L : Nat → Nat} {r : Nat} : wk L r ∣ wk L (r + 1) := by
  obtain ⟨t, ht⟩ := Nat.gcd_dvd_right (wk L r) (L r)
  refine ⟨t, ?_⟩
  show wk L r / Nat.gcd (wk L r) (L r) * L r = wk L r * t
  conv => lhs; rw [ht, ← Nat.mul_assoc]
  rw [show wk L r / Nat.gcd (wk L r) (Nat.gcd (wk L r) (L r) * t) * Nat.gcd (wk L r) (L r) = wk L r by rw [← ht, Nat.div_mul_cancel (Nat.gcd_dvd_left _ _)]]
theorem wk_L {L : Nat → Nat} {r : Nat} : L r ∣ wk L (r + 1) := ⟨_, Nat.mul_comm _ _⟩
theorem wk_all {L : Nat → Nat} : ∀ r j, j < r → L j ∣ wk L r := by
  intro r
  induction r with
  | zero => intro j hj; omega
  | succ r ih =>
    intro j hj
    by_cases e : j = r
    · rw [e]; exact wk_L
    · exact Nat.dvd_trans (ih j (by omega)) wk_dvd
theorem le_2 : ∀ n : Nat, n ≤ 2 ^ n := by
  intro n
  induction n with
  | zero => exact Nat.zero_le _
  | succ n ih =>
    have : 1 ≤ 2 ^ n := Nat.one_le_two_pow
    rw [Nat.pow_succ]
    omega
theorem wk_b {f L : Nat → Nat} {n : Nat} (hM : PM f n) (hP : ∀ i, i < n → PS f n i (L i)) : ∀ r, r ≤ n → 1 ≤ wk L r ∧ wk L r ≤ 2 ^ ct (sS f r) n := by
  intro r
  induction r with
  | zero => intro _; exact ⟨Nat.le_refl _, Nat.one_le_two_pow⟩
  | succ r ih =>
    intro hr
    obtain ⟨b1, b2⟩ := ih (by omega)
    have hPr := hP r (by omega)
    have hmono : ct (sS f r) n ≤ ct (sS f (r + 1)) n := ct_mono (fun k _ hk => by
      rw [sS_t] at hk ⊢
      obtain ⟨j, j1, j2⟩ := hk
      exact ⟨j, by omega, j2⟩)
    cases hl : lead f n r with
    | false =>
      obtain ⟨j, j1, k, hk⟩ := (nlead hP (by omega)).mp hl
      have e : L j = L r := ps_eq (hP j (by omega)) hPr hk.symm
      have hd : L r ∣ wk L r := by rw [← e]; exact wk_all r j j1
      have hg : Nat.gcd (wk L r) (L r) = L r := Nat.gcd_eq_right hd
      have e2 : wk L (r + 1) = wk L r := by
        show wk L r / Nat.gcd (wk L r) (L r) * L r = wk L r
        rw [hg, Nat.div_mul_cancel hd]
      rw [e2]
      exact ⟨b1, Nat.le_trans b2 (Nat.pow_le_pow_right (by omega) hmono)⟩
    | true =>
      have hO : L r ≤ ct (oS f r) n := inj_ct (g := fun k => it f k r) (L r) (oS f r) (fun k _ => ⟨it_lt hM (by omega) k, oS_t.mpr ⟨k, rfl⟩⟩) (fun a b hab hb e => by
        have e2 : it f a r = it f a (it f (b - a) r) := by
          rw [← it_add, show a + (b - a) = b by omega]; exact e
        exact hPr.2.2.2 (b - a) (by omega) (by omega) (it_inj hM (by omega) (it_lt hM (by omega) _) a e2).symm)
      have hU : ct (sS f r) n + ct (oS f r) n ≤ ct (sS f (r + 1)) n := by
        have : ct (fun q => sS f r q || oS f r q) n = ct (sS f r) n + ct (oS f r) n := ct_add (fun q _ => by
          cases h1 : sS f r q with
          | false => simp
          | true =>
            cases h2 : oS f r q with
            | false => simp
            | true =>
              exfalso
              obtain ⟨j, j1, k, hk⟩ := sS_t.mp h1
              obtain ⟨k', hk'⟩ := oS_t.mp h2
              obtain ⟨m, hm⟩ := or_sym (k := k) (hP j (by omega))
              rw [hk, ← hk', ← it_add] at hm
              have := lead_all hPr hl (m + k')
              omega)
        rw [← this]
        refine ct_mono (fun q _ hq => ?_)
        rw [sS_t]
        rw [Bool.or_eq_true] at hq
        rcases hq with hq | hq
        · obtain ⟨j, j1, j2⟩ := sS_t.mp hq
          exact ⟨j, by omega, j2⟩
        · exact ⟨r, by omega, oS_t.mp hq⟩
      have hgp : 0 < Nat.gcd (wk L r) (L r) := Nat.gcd_pos_of_pos_left _ b1
      have hge : 1 ≤ wk L r / Nat.gcd (wk L r) (L r) := Nat.div_pos (Nat.le_of_dvd b1 (Nat.gcd_dvd_left _ _)) hgp
      refine ⟨Nat.mul_le_mul hge hPr.1, ?_⟩
      calc wk L (r + 1) = wk L r / Nat.gcd (wk L r) (L r) * L r := rfl
        _ ≤ 2 ^ ct (sS f r) n * 2 ^ L r := Nat.mul_le_mul (Nat.le_trans (Nat.div_le_self _ _) b2) (le_2 _)
        _ = 2 ^ (ct (sS f r) n + L r) := (Nat.pow_add _ _ _).symm
        _ ≤ 2 ^ ct (sS f (r + 1)) n := Nat.pow_le_pow_right (by omega) (by omega)
theorem wk_lt {f L : Nat → Nat} {n r : Nat} (hM : PM f n) (hP : ∀ i, i < n → PS f n i (L i)) (hr : r ≤ n) (hn : n ≤ 24) : 1 ≤ wk L r ∧ wk L r < 2 ^ 25 := by
  obtain ⟨h1, h2⟩ := wk_b hM hP r hr
  have h3 := ct_le (sS f r) n
  exact ⟨h1, Nat.lt_of_le_of_lt h2 (Nat.pow_lt_pow_right (by omega) (by omega))⟩
-- both learn
def zsn (B : Nat → Nat) : Nat → Nat → Nat
  | 0 => fun _ => 0
  | i + 1 => va_up (zsn B i) (B i) 1
theorem zsn_1 {B : Nat → Nat} : ∀ i q, zsn B i q ≤ 1 := by
  intro i
  induction i with
  | zero => intro q; exact Nat.zero_le _
  | succ i ih =>
    intro q
    show va_up (zsn B i) (B i) 1 q ≤ 1
    by_cases e : q = B i
    · rw [e, va_eq]; exact Nat.le_refl _
    · rw [va_ne e]; exact ih q
theorem zsn_t {B : Nat → Nat} : ∀ i q, zsn B i q = 1 ↔ ∃ j, j < i ∧ B j = q := by
  intro i
  induction i with
  | zero =>
    intro q
    constructor
    · intro h; exact absurd h (by show ¬ (0 : Nat) = 1; omega)
    · intro ⟨j, j1, _⟩; omega
  | succ i ih =>
    intro q
    show va_up (zsn B i) (B i) 1 q = 1 ↔ _
    by_cases e : q = B i
    · rw [e, va_eq]
      exact ⟨fun _ => ⟨i, by omega, rfl⟩, fun _ => rfl⟩
    · rw [va_ne e, ih q]
      constructor
      · intro ⟨j, j1, j2⟩; exact ⟨j, by omega, j2⟩
      · intro ⟨j, j1, j2⟩
        refine ⟨j, ?_, j2⟩
        by_cases hji : j = i
        · rw [hji] at j2; exact absurd j2.symm e
        · omega
theorem bit_test {Z : Nat → Nat} {j : Nat} (h : ∀ q, q < 24 → Z q ≤ 1) (hj : j < 24) : ((nI (g_bits Z 0 24) >>> (nI j &&& 31)) &&& 1) = nI (Z j) := by
  have hg := g_bits_lt (N := Z) (b := 0) (n := 24) (fun k hk => by rw [Nat.zero_add]; exact h k hk)
  have ht := g_bits_test (N := Z) (b := 0) (n := 24) (fun k hk => by rw [Nat.zero_add]; exact h k hk) j hj
  have h1 := h j hj
  rw [Nat.zero_add] at ht
  rw [nI_shr (by omega) (by omega), show (1 : Int32) = nI 1 from rfl, nI_and, bit_of, ht]
  rcases (show Z j = 0 ∨ Z j = 1 by omega) with q | q
  · rw [q]; rfl
  · rw [q]; rfl
theorem bit_put {Z : Nat → Nat} {j : Nat} (h : ∀ q, q < 24 → Z q ≤ 1) (hj : j < 24) : nI (g_bits Z 0 24) ||| ((1 : Int32) <<< (nI j &&& 31)) = nI (g_bits (va_up Z j 1) 0 24) := by
  have := bits_set (N := Z) (b := 0) (j := j) (fun k hk => by rw [Nat.zero_add]; exact h k hk) hj
  rw [Nat.zero_add] at this
  rw [nI_bit j (by omega), nI_or, this]
theorem bit_clr {Z : Nat → Nat} {j : Nat} (h : ∀ q, q < 24 → Z q ≤ 1) (hj : j < 24) : nI (g_bits Z 0 24) &&& (((1 : Int32) <<< (nI j &&& 31)) ^^^ (-1)) = nI (g_bits (va_up Z j 0) 0 24) := by
  have := bits_clr (N := Z) (b := 0) (j := j) (fun k hk => by rw [Nat.zero_add]; exact h k hk) hj
  rw [Nat.zero_add] at this
  rw [nI_bit j (by omega), this]
theorem ln53 : z_ln SH 53 = 24 := by decide
theorem j_learn {B : Nat → Nat} {n : Nat} (hn : n ≤ 24) : ∀ m nn i (M M2 : zM), i + m = n → m < nn → ST M → ST M2 → TB M B → TB M2 B → M.1 1 2 = nI n → M.1 52 1 = nI n → (∀ j, j < i → M.1 53 j = nI (B j)) → (∀ j, j < i → B j < n) → (∀ a b, a < b → b < i → B a ≠ B b) → ∃ v M', f_X3_learn_15 52 1 nn (nI (g_bits (zsn B i) 0 24)) (nI i) M = some (v, M') ∧ Fr [53] M M' ∧ f_X12_isOnceEach_4 54 (nI n) nn (nI (g_bits (zsn B i) 0 24)) (nI i) M2 = some (v, M2) ∧ (v = 0 ∨ (v = 1 ∧ PM B n ∧ ∀ j, j < n → M'.1 53 j = nI (B j))) := by
  intro m
  induction m with
  | zero =>
    intro nn i M M2 hi hnn hS hS2 hB hB2 he hnum h53 hlt hinj
    obtain ⟨nn, rfl⟩ : ∃ m, nn = m + 1 := ⟨nn - 1, by omega⟩
    obtain rfl : i = n := by omega
    refine ⟨1, M, ?_, Fr.rf, ?_, Or.inr ⟨rfl, ⟨hlt, fun a b ha hb e => ?_⟩, h53⟩⟩
    · rw [f_X3_learn_15, hnum, if_pos ((nI_leI (by omega) (by omega)).mpr (Nat.le_refl _))]
    · rw [f_X12_isOnceEach_4, if_pos ((nI_leI (by omega) (by omega)).mpr (Nat.le_refl _))]
    · apply Classical.byContradiction
      intro hne
      rcases Nat.lt_or_gt_of_ne hne with q | q
      · exact hinj a b q hb e
      · exact hinj b a q ha e.symm
  | succ m ih =>
    intro nn i M M2 hi hnn hS hS2 hB hB2 he hnum h53 hlt hinj
    obtain ⟨nn, rfl⟩ : ∃ m, nn = m + 1 := ⟨nn - 1, by omega⟩
    have hb := (hB i (by omega)).1
    have hz : ∀ q, q < 24 → zsn B i q ≤ 1 := fun q _ => zsn_1 i q
    rw [f_X3_learn_15, hnum, if_neg (nI_ge (a := i) (b := n) (by omega) (by omega)), c_byteAt hS hB he (by omega) (by omega), z_call_eq, if_neg (nI_pos (by omega)), hnum]
    rw [f_X12_isOnceEach_4, if_neg (nI_ge (a := i) (b := n) (by omega) (by omega)), m_octet hS2 hB2 (by omega), z_call_eq]
    by_cases h1 : B i < n
    · rw [if_neg (nI_ge h1 (by omega)), if_neg (nI_ge h1 (by omega)), m_octet hS2 hB2 (by omega), z_call_eq, f_X12_has, bit_test hz (by omega)]
      by_cases h2 : zsn B i (B i) = 1
      · refine ⟨0, M, ?_, Fr.rf, ?_, Or.inl rfl⟩
        · rw [h2, if_pos (show nI 1 = 1 from rfl)]
        · rw [h2, if_pos (show nI 1 = 1 from rfl), z_call_eq, if_neg (by decide)]
      · have h0 : zsn B i (B i) = 0 := by have := zsn_1 (B := B) i (B i); omega
        have f1 : Fr [53] M (zu M.1 53 i (nI (B i)), M.2) := Fr.zu (by simp)
        obtain ⟨v, M', v1, v2, v3, v4⟩ := ih nn (i + 1) (zu M.1 53 i (nI (B i)), M.2) M2 (by omega) (by omega) (f1.st hS) hS2 (hB.to (f1.1 2 (by decide)) (f1.1 58 (by decide))) hB2 (by rw [f1.1 1 (by decide)]; exact he) (by rw [f1.1 52 (by decide)]; exact hnum) (fun j hj => by
          show zu M.1 53 i (nI (B i)) 53 j = _
          by_cases e : j = i
          · rw [e, zu_same]
          · rw [zu_ne _ _ _ e]; exact h53 j (by omega)) (fun j hj => by
          by_cases e : j = i
          · rw [e]; exact h1
          · exact hlt j (by omega)) (fun a b hab hb' e => by
          by_cases ebi : b = i
          · rw [ebi] at e
            exact h2 ((zsn_t i (B i)).mpr ⟨a, by omega, e⟩)
          · exact hinj a b hab (by omega) e)
        refine ⟨v, M', ?_, f1.tr v2, ?_, v4⟩
        · rw [h0, if_neg (by decide), bit_put hz (by omega), zl_eq, (ST.a hS (o := 52) (k := 0) (a := 53) (by decide)), z_rd_eq, ln53, if_pos (by rw [z_ixN (by omega)]; omega), zl_eq, nI_clamp (by omega), zl_eq, nI_1]
          exact v1
        · rw [h0, if_neg (by decide), z_call_eq, if_pos rfl, m_octet hS2 hB2 (by omega), z_call_eq, bit_put hz (by omega), zl_eq, zl_eq, nI_1]
          exact v3
    · refine ⟨0, M, ?_, Fr.rf, ?_, Or.inl rfl⟩
      · rw [if_pos ((nI_leI (by omega) (by omega)).mpr (by omega))]
      · rw [if_pos ((nI_leI (by omega) (by omega)).mpr (by omega))]
