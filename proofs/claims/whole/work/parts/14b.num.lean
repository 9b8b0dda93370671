/-! numbers and rooms in a text -/
def flt (c p : Nat) : Int32 := -1000 * nI c - nI p
theorem flt_nz {c p : Nat} (h1 : 1 ≤ c) (h2 : c < 8) (hp : p < 270) : flt c p ≠ 0 := flt_ne c h2 p hp h1
theorem m_wrN {M : zM} {c p : Nat} : f_X12_wrongAt 54 (nI c) (nI p) M = some (0, (zu M.1 54 7 (flt c p), M.2)) := m_wrong
theorem c_faN {M : zM} {e p c q : Nat} (hr : CR M e p 0) : f_X10_failAt 1 (nI c) (nI q) M = some ((), tpM M p (flt c q)) := c_fail hr
def isd (B : Nat → Nat) (e p : Nat) : Bool := decide (p < e ∧ 48 ≤ B p ∧ B p ≤ 57)
theorem isd_t {B : Nat → Nat} {e p : Nat} (h : isd B e p = true) : p < e ∧ 48 ≤ B p ∧ B p ≤ 57 := by simpa [isd] using h
def rl (B : Nat → Nat) (e : Nat) : Nat → Nat → Nat
  | 0, _ => 0
  | d + 1, p => if isd B e p then rl B e d (p + 1) + 1 else 0
def vl (B : Nat → Nat) (p : Nat) : Nat → Nat
  | 0 => 0
  | k + 1 => 10 * vl B p k + (B (p + k) - 48)
theorem rl_t {B : Nat → Nat} {e d p : Nat} (h : isd B e p = true) : rl B e (d + 1) p = rl B e d (p + 1) + 1 := by simp only [rl]; rw [if_pos h]
theorem rl_f {B : Nat → Nat} {e d p : Nat} (h : ¬ isd B e p = true) : rl B e (d + 1) p = 0 := by simp only [rl]; rw [if_neg h]
theorem rl_le {B : Nat → Nat} {e : Nat} : ∀ d p, rl B e d p ≤ d := by
  intro d
  induction d with
  | zero => intro p; exact Nat.le_refl _
  | succ d ih =>
    intro p
    simp only [rl]
    by_cases h : isd B e p = true
    · rw [if_pos h]; have := ih (p + 1); omega
    · rw [if_neg h]; omega
theorem rl_e {B : Nat → Nat} {e : Nat} : ∀ d p, p ≤ e → p + rl B e d p ≤ e := by
  intro d
  induction d with
  | zero => intro p h; exact h
  | succ d ih =>
    intro p h
    simp only [rl]
    by_cases q : isd B e p = true
    · rw [if_pos q]; have := isd_t q; have := ih (p + 1) (by omega); omega
    · rw [if_neg q]; omega
theorem vl_lt {B : Nat → Nat} {e p : Nat} : ∀ d i, (∀ j, j < i → isd B e (p + j) = true) → vl B p i < 10 ^ i ∧ vl B p (i + rl B e d (p + i)) < 10 ^ (i + rl B e d (p + i)) := by
  have one : ∀ i, (∀ j, j < i → isd B e (p + j) = true) → vl B p i < 10 ^ i := by
    intro i
    induction i with
    | zero => intro _; exact Nat.lt_of_lt_of_le (by show 0 < 1; omega) (Nat.le_refl _)
    | succ i ih =>
      intro h
      have h1 := ih (fun j hj => h j (by omega))
      have h2 := isd_t (h i (by omega))
      simp only [vl]
      rw [Nat.pow_succ]
      omega
  intro d
  induction d with
  | zero => intro i h; exact ⟨one i h, one i h⟩
  | succ d ih =>
    intro i h
    refine ⟨one i h, ?_⟩
    simp only [rl]
    by_cases q : isd B e (p + i) = true
    · rw [if_pos q]
      have := (ih (i + 1) (fun j hj => by
        by_cases z : j = i
        · rw [z]; exact q
        · exact h j (by omega))).2
      rw [show i + (rl B e d (p + i + 1) + 1) = i + 1 + rl B e d (p + (i + 1)) by rw [← Nat.add_assoc p i 1]; omega]
      exact this
    · rw [if_neg q]; exact one i h
theorem vl_b {B : Nat → Nat} {e p d : Nat} (hd : d ≤ 5) : vl B p (rl B e d p) < 100000 := by
  have h := (vl_lt (B := B) (e := e) (p := p) d 0 (fun j hj => by omega)).2
  rw [Nat.zero_add, Nat.add_zero] at h
  have h1 := rl_le (B := B) (e := e) d p
  have h2 : 10 ^ rl B e d p ≤ 10 ^ 5 := Nat.pow_le_pow_right (by omega) (by omega)
  omega
theorem vl_b4 {B : Nat → Nat} {e p d : Nat} (hd : d ≤ 4) : vl B p (rl B e d p) < 10000 := by
  have h := (vl_lt (B := B) (e := e) (p := p) d 0 (fun j hj => by omega)).2
  rw [Nat.zero_add, Nat.add_zero] at h
  have h1 := rl_le (B := B) (e := e) d p
  have h2 : 10 ^ rl B e d p ≤ 10 ^ 4 := Nat.pow_le_pow_right (by omega) (by omega)
  omega
theorem sg_isd {B : Nat → Nat} {e p : Nat} (hB : ∀ k, k < 260 → B k < 256) (he : e ≤ 260) : (isd B e p = true → ¬ sg B e p < 48 ∧ ¬ (57 : Int32) < sg B e p) ∧ (¬ isd B e p = true → sg B e p < 48 ∨ (57 : Int32) < sg B e p) := by
  unfold sg
  by_cases h : p < e
  · rw [if_pos h]
    have := hB p (by omega)
    constructor
    · intro q
      have := isd_t q
      exact ⟨nI_nlt (b := 48) (by omega) (by omega), nI_nlt (a := 57) (by omega) (by omega)⟩
    · intro q
      by_cases z : B p < 48
      · exact Or.inl ((nI_ltI (b := 48) (by omega) (by omega)).mpr z)
      · refine Or.inr ((nI_ltI (a := 57) (by omega) (by omega)).mpr ?_)
        have : ¬ (p < e ∧ 48 ≤ B p ∧ B p ≤ 57) := by simpa [isd] using q
        omega
  · rw [if_neg h]
    constructor
    · intro q
      exact absurd (isd_t q).1 h
    · intro _
      exact Or.inl (by decide)
theorem c_isDigit {B : Nat → Nat} {e p : Nat} (hB : ∀ k, k < 260 → B k < 256) (he : e ≤ 260) (M : zM) : f_X10_isDigit (sg B e p) M = some (if isd B e p then 1 else 0, M) := by
  obtain ⟨h1, h2⟩ := sg_isd (B := B) (e := e) (p := p) hB he
  rw [f_X10_isDigit]
  by_cases q : isd B e p = true
  · rw [if_neg (h1 q).1, if_neg (h1 q).2, if_pos q]
  · rw [if_neg q]
    rcases h2 q with h | h
    · rw [if_pos h]
    · by_cases z : sg B e p < 48
      · rw [if_pos z]
      · rw [if_neg z, if_pos h]
theorem TB.lt {M : zM} {B : Nat → Nat} (h : TB M B) : ∀ k, k < 260 → B k < 256 := fun k hk => (h k hk).1
theorem m_isDigit {M : zM} {B : Nat → Nat} {e p : Nat} (hS : ST M) (hB : TB M B) (hr : MR M e p) (he : e ≤ 260) (hp : p < 1000) : f_X12_isDigit 54 M = some (if isd B e p then 1 else 0, M) := by
  obtain ⟨h1, h2⟩ := sg_isd (B := B) (e := e) (p := p) hB.lt he
  rw [f_X12_isDigit, m_here hS hB hr he hp, z_call_eq]
  by_cases q : isd B e p = true
  · rw [if_neg (h1 q).1, m_here hS hB hr he hp, z_call_eq, if_neg (h1 q).2, if_pos q]
  · rw [if_neg q]
    by_cases z : sg B e p < 48
    · rw [if_pos z]
    · rw [if_neg z, m_here hS hB hr he hp, z_call_eq]
      rcases h2 q with h | h
      · exact absurd h z
      · rw [if_pos h]
theorem sg_d {B : Nat → Nat} {e p : Nat} (h : isd B e p = true) : sg B e p = nI (B p) := by
  unfold sg
  rw [if_pos (isd_t h).1]
/-- the number at a place, of at most d digits: its fault, and itself -/
def nmF (B : Nat → Nat) (e d p : Nat) : Int32 := if rl B e d p = 0 then flt 1 p else if isd B e (p + rl B e d p) then flt 2 (p + rl B e d p) else 0
def nmN (B : Nat → Nat) (e d p : Nat) : Nat := vl B p (rl B e d p)
theorem c_num63 {M : zM} {B : Nat → Nat} {e p : Nat} {x : Int32} (hS : ST M) (hB : TB M B) (hr : CR M e p 0) (he : e ≤ 260) (hp : p ≤ e) : f_X10_number_63 1 x M = if isd B e p then some (-1, tpM M p (flt 2 p)) else some (x, tpM M p 0) := by
  rw [f_X10_number_63, c_sign hS hB hr he (by omega), z_call_eq, c_isDigit hB.lt he, z_call_eq]
  by_cases q : isd B e p = true
  · rw [if_pos q, if_neg (by decide), if_pos q, hr.2.1, c_fail hr, z_call_eq]
    rfl
  · rw [if_neg q, if_pos rfl, if_neg q, tpM_id hr]
theorem c_num_lp {B : Nat → Nat} {e p d : Nat} (he : e ≤ 260) (hd : d ≤ 5) : ∀ m n i (M : zM), i + m = d → m < n → p + i ≤ e → ST M → TB M B → CR M e (p + i) 0 → (∀ j, j < i → isd B e (p + j) = true) → f_X10_number_25 1 (nI d) n (nI (vl B p i)) (nI i) M = if isd B e (p + (i + rl B e m (p + i))) then some (-1, tpM M (p + (i + rl B e m (p + i))) (flt 2 (p + (i + rl B e m (p + i))))) else some (nI (vl B p (i + rl B e m (p + i))), tpM M (p + (i + rl B e m (p + i))) 0) := by
  intro m
  induction m with
  | zero =>
    intro n i M hi hn hp hS hB hr hj
    obtain ⟨n, rfl⟩ : ∃ m, n = m + 1 := ⟨n - 1, by omega⟩
    obtain rfl : i = d := by omega
    rw [f_X10_number_25, if_pos ((nI_leI (by omega) (by omega)).mpr (Nat.le_refl _)), c_num63 hS hB hr he hp]
    rfl
  | succ m ih =>
    intro n i M hi hn hp hS hB hr hj
    obtain ⟨n, rfl⟩ : ∃ m, n = m + 1 := ⟨n - 1, by omega⟩
    rw [f_X10_number_25, if_neg (nI_ge (by omega) (by omega)), c_sign hS hB hr he (by omega), z_call_eq, c_isDigit hB.lt he, z_call_eq]
    by_cases q : isd B e (p + i) = true
    · obtain ⟨q1, q2, q3⟩ := isd_t q
      have hv := (vl_lt (B := B) (e := e) (p := p) 0 i hj).1
      have hv2 : 10 ^ i ≤ 10 ^ 5 := Nat.pow_le_pow_right (by omega) (by omega)
      have r1 : CR (tpM M (p + i + 1) 0) e (p + i + 1) 0 := tpM_cr hr
      rw [rl_t q, if_pos q, if_neg (by decide), c_sign hS hB hr he (by omega), z_call_eq, sg_d q, zl_eq, c_step hr, z_call_eq, zl_eq, nI_1, show (nI (vl B p i) * 10 + nI (B (p + i)) - 48 : Int32) = nI (vl B p (i + 1)) by
        rw [show (10 : Int32) = nI 10 from rfl, nI_mul, nI_add]
        refine (nI_sub (b := 48) (by omega)).trans ?_
        simp only [vl]
        congr 1
        omega]
      have := ih n (i + 1) (tpM M (p + i + 1) 0) (by omega) (by omega) (by omega) (hS.to rfl) (hB.to (tpM_o (by decide)) (tpM_o (by decide))) r1 (fun j hj2 => by
        by_cases z : j = i
        · rw [z]; exact q
        · exact hj j (by omega))
      rw [this]
      simp only [tpM_tpM]
      rw [show i + 1 + rl B e m (p + (i + 1)) = i + (rl B e m (p + i + 1) + 1) by rw [← Nat.add_assoc p i 1]; omega]
    · rw [rl_f q, if_neg q, if_pos rfl, c_num63 hS hB hr he hp]
      rfl
theorem c_number {M : zM} {B : Nat → Nat} {e p d : Nat} (hS : ST M) (hB : TB M B) (hr : CR M e p 0) (he : e ≤ 260) (hp : p ≤ e) (hd : d ≤ 5) (hd1 : 1 ≤ d) : f_X10_number 1 (nI d) M = some (if nmF B e d p = 0 then nI (nmN B e d p) else -1, tpM M (p + rl B e d p) (nmF B e d p)) := by
  obtain ⟨d, rfl⟩ : ∃ c, d = c + 1 := ⟨d - 1, by omega⟩
  have hre := rl_e (B := B) (e := e) (d + 1) p hp
  rw [f_X10_number, c_sign hS hB hr he (by omega), z_call_eq, c_isDigit hB.lt he, z_call_eq]
  unfold nmF nmN
  by_cases q : isd B e p = true
  · have h0 : rl B e (d + 1) p ≠ 0 := by simp only [rl]; rw [if_pos q]; omega
    have h25 := c_num_lp (B := B) (p := p) he hd (d + 1) zF 0 M (by omega) (by unfold zF; omega) (by omega) hS hB (by rw [Nat.add_zero]; exact hr) (fun j hj => by omega)
    rw [show p + 0 = p from rfl, Nat.zero_add] at h25
    rw [if_pos q, if_neg (by decide), if_neg h0]
    refine Eq.trans h25 ?_
    by_cases z : isd B e (p + rl B e (d + 1) p) = true
    · rw [if_pos z, if_pos z, if_neg (flt_nz (by omega) (by omega) (by omega))]
    · rw [if_neg z, if_neg z, if_pos rfl]
  · have h0 : rl B e (d + 1) p = 0 := by simp only [rl]; rw [if_neg q]
    rw [if_neg q, if_pos rfl, hr.2.1, c_fail hr, z_call_eq, if_pos h0, h0, Nat.add_zero, if_neg (flt_nz (by omega) (by omega) (by omega))]
    rfl
theorem c_numberF {M : zM} {e p : Nat} {f x : Int32} (hr : CR M e p f) (hf : f ≠ 0) : f_X10_number 1 x M = some (-1, M) := by
  rw [f_X10_number, c_signF hr hf, z_call_eq, f_X10_isDigit, if_pos (by decide), z_call_eq, if_pos rfl, c_failF hr hf, z_call_eq]
/-- what the reference has done with a number or a room -/
def NMr (e : Nat) (M M' : zM) (o : Option (Int32 × zM)) (p' : Nat) (v : Nat) (f : Int32) : Prop := o = some (if f = 0 then 1 else 0, M') ∧ MX [54] [5, 7, 8] M M' ∧ (f = 0 → MR M' e p' ∧ M'.1 54 8 = nI v) ∧ (f ≠ 0 → M'.1 54 7 = f)
theorem m_am_lp {B : Nat → Nat} {e p d : Nat} (he : e ≤ 260) (hd : d ≤ 5) : ∀ m n i (M : zM), i + m = d → m < n → p + i ≤ e → ST M → TB M B → MR M e (p + i) → M.1 54 8 = nI (vl B p i) → (∀ j, j < i → isd B e (p + j) = true) → ∃ M', NMr e M M' (f_X12_readsAmount_27 54 (nI d) n (nI p) M) (p + (i + rl B e m (p + i))) (vl B p (i + rl B e m (p + i))) (if isd B e (p + (i + rl B e m (p + i))) then flt 2 (p + (i + rl B e m (p + i))) else 0) := by
  intro m
  induction m with
  | zero =>
    intro n i M hi hn hp hS hB hr h8 hj
    obtain ⟨n, rfl⟩ : ∃ m, n = m + 1 := ⟨n - 1, by omega⟩
    obtain rfl : i = d := by omega
    rw [f_X12_readsAmount_27, m_isDigit hS hB hr he (by omega), z_call_eq]
    rw [show i + rl B e 0 (p + i) = i from rfl]
    by_cases q : isd B e (p + i) = true
    · have hnz : flt 2 (p + i) ≠ 0 := flt_nz (by omega) (by omega) (by omega)
      rw [if_pos q, if_neg (by decide), if_pos q, hr.1, nI_add, if_pos rfl, show (2 : Int32) = nI 2 from rfl, m_wrN, z_call_eq, if_pos (Or.inl rfl)]
      exact ⟨(zu M.1 54 7 (flt 2 (p + i)), M.2), by rw [if_neg hnz], MX.s54 (by simp) (by simp), fun h => absurd h hnz, fun _ => zu_same M.1 54 7 _⟩
    · rw [if_neg q, if_pos rfl, if_neg q]
      exact ⟨M, rfl, MX.rf, fun _ => ⟨hr, h8⟩, fun h => absurd rfl h⟩
  | succ m ih =>
    intro n i M hi hn hp hS hB hr h8 hj
    obtain ⟨n, rfl⟩ : ∃ m, n = m + 1 := ⟨n - 1, by omega⟩
    rw [f_X12_readsAmount_27, m_isDigit hS hB hr he (by omega), z_call_eq]
    by_cases q : isd B e (p + i) = true
    · obtain ⟨q1, q2, q3⟩ := isd_t q
      have hv := (vl_lt (B := B) (e := e) (p := p) 0 i hj).1
      have hv2 : 10 ^ i ≤ 10 ^ 5 := Nat.pow_le_pow_right (by omega) (by omega)
      have ev : (10 * nI (vl B p i) + nI (B (p + i)) - 48 : Int32) = nI (vl B p (i + 1)) := by
        rw [show (10 : Int32) = nI 10 from rfl, nI_mul, nI_add]
        refine (nI_sub (b := 48) (by omega)).trans ?_
        simp only [vl]
        congr 1
        omega
      have x1 : MX [54] [5, 7, 8] M (zu M.1 54 8 (nI (vl B p (i + 1))), M.2) := MX.s54 (by simp) (by simp)
      have x2 : MX [54] [5, 7, 8] M (zu (zu M.1 54 8 (nI (vl B p (i + 1)))) 54 5 (nI (p + i + 1)), M.2) := x1.tr (MX.s54 (M := (zu M.1 54 8 (nI (vl B p (i + 1))), M.2)) (by simp) (by simp))
      obtain ⟨M', i1, i2, i3, i4⟩ := ih n (i + 1) (zu (zu M.1 54 8 (nI (vl B p (i + 1)))) 54 5 (nI (p + i + 1)), M.2) (by omega) (by omega) (by omega) (x2.1.st hS) (hB.to (x2.1.1 2 (by decide)) (x2.1.1 58 (by decide))) ⟨zu_same (zu M.1 54 8 (nI (vl B p (i + 1)))) 54 5 _, by rw [x2.2 6 (by decide)]; exact hr.2⟩ (by
          show zu (zu M.1 54 8 (nI (vl B p (i + 1)))) 54 5 (nI (p + i + 1)) 54 8 = _
          rw [zu_ne _ _ _ (by decide), zu_same]) (fun j hj2 => by
          by_cases z : j = i
          · rw [z]; exact q
          · exact hj j (by omega))
      rw [show i + 1 + rl B e m (p + (i + 1)) = i + (rl B e m (p + i + 1) + 1) by rw [← Nat.add_assoc p i 1]; omega] at i1 i3 i4
      rw [rl_t q]
      refine ⟨M', ?_, x2.tr i2, ?_, ?_⟩
      · rw [if_pos q, if_neg (by decide), hr.1, nI_add, if_neg (fun h => by have := (nI_eq (by omega) (by omega)).mp h; omega), m_here hS hB hr he (by omega), z_call_eq, sg_d q, h8, zl_eq, ev, zl_eq]
        have : (zu M.1 54 8 (nI (vl B p (i + 1))) 54 5 + 1 : Int32) = nI (p + i + 1) := by rw [zu_ne _ _ _ (by decide), hr.1, nI_1]
        show f_X12_readsAmount_27 54 (nI d) n (nI p) (zu (zu M.1 54 8 (nI (vl B p (i + 1)))) 54 5 (zu M.1 54 8 (nI (vl B p (i + 1))) 54 5 + 1), M.2) = _
        rw [this]
        exact i1
      · exact i3
      · exact i4
    · rw [rl_f q, if_neg q, if_pos rfl, Nat.add_zero, if_neg q]
      exact ⟨M, rfl, MX.rf, fun _ => ⟨hr, h8⟩, fun h => absurd rfl h⟩
theorem m_amount {M : zM} {B : Nat → Nat} {e p d : Nat} (hS : ST M) (hB : TB M B) (hr : MR M e p) (he : e ≤ 260) (hp : p ≤ e) (hd : d ≤ 5) (hd1 : 1 ≤ d) : ∃ M', NMr e M M' (f_X12_readsAmount 54 (nI d) M) (p + rl B e d p) (nmN B e d p) (nmF B e d p) := by
  obtain ⟨d, rfl⟩ : ∃ c, d = c + 1 := ⟨d - 1, by omega⟩
  rw [f_X12_readsAmount, zl_eq, m_isDigit hS hB hr he (by omega), z_call_eq]
  unfold nmF nmN
  by_cases q : isd B e p = true
  · have h0 : rl B e (d + 1) p ≠ 0 := by simp only [rl]; rw [if_pos q]; omega
    have x1 : MX [54] [5, 7, 8] M (zu M.1 54 8 (nI 0), M.2) := MX.s54 (by simp) (by simp)
    obtain ⟨M', i1, i2, i3, i4⟩ := m_am_lp he hd (d + 1) zF 0 (zu M.1 54 8 (nI 0), M.2) (by omega) (by unfold zF; omega) (by omega) (x1.1.st hS) (hB.to (x1.1.1 2 (by decide)) (x1.1.1 58 (by decide))) (hr.to (zu_ne M.1 54 (j := 8) (j' := 5) (nI 0) (by decide)) (x1.2 6 (by decide))) (zu_same M.1 54 8 _) (fun j hj => by omega)
    rw [Nat.zero_add, Nat.add_zero] at i1 i3 i4
    refine ⟨M', ?_, x1.tr i2, ?_, ?_⟩
    · rw [if_pos q, if_neg (by decide), zl_eq, hr.1, if_neg h0]
      exact i1
    · rw [if_neg h0]; exact i3
    · rw [if_neg h0]; exact i4
  · have h0 : rl B e (d + 1) p = 0 := by simp only [rl]; rw [if_neg q]
    have hnz : flt 1 p ≠ 0 := flt_nz (by omega) (by omega) (by omega)
    rw [if_neg q, if_pos rfl, hr.1, show (1 : Int32) = nI 1 from rfl, m_wrN, z_call_eq, if_pos (Or.inl rfl), if_pos h0]
    exact ⟨(zu M.1 54 7 (flt 1 p), M.2), by rw [if_neg hnz], MX.s54 (by simp) (by simp), fun h => absurd h hnz, fun _ => zu_same M.1 54 7 _⟩
theorem rn_am : ∀ n x M, f_X12_readsNumber_10 54 n x M = f_X12_readsAmount_27 54 5 n x M := by
  intro n
  induction n with
  | zero => intro x M; rfl
  | succ n ih => intro x M; rw [f_X12_readsNumber_10, f_X12_readsAmount_27]; simp only [ih]
/-- rooms -/
def rmF (B : Nat → Nat) (e p : Nat) : Int32 := if nmF B e 2 p = 0 then (if 24 ≤ nmN B e 2 p then flt 3 p else 0) else nmF B e 2 p
theorem rmF_0 {B : Nat → Nat} {e p : Nat} (hp : p ≤ e) (he : e ≤ 260) (h : rmF B e p = 0) : nmF B e 2 p = 0 ∧ nmN B e 2 p < 24 ∧ 1 ≤ rl B e 2 p := by
  unfold rmF at h
  by_cases q : nmF B e 2 p = 0
  · rw [if_pos q] at h
    by_cases z : 24 ≤ nmN B e 2 p
    · rw [if_pos z] at h
      exact absurd h (flt_nz (by omega) (by omega) (by omega))
    · refine ⟨q, by omega, ?_⟩
      unfold nmF at q
      by_cases y : rl B e 2 p = 0
      · rw [if_pos y] at q
        exact absurd q (flt_nz (by omega) (by omega) (by omega))
      · omega
  · rw [if_neg q] at h
    exact absurd h q
theorem nI_m1 {a : Nat} (h : a < 2 ^ 31) : nI a ≠ -1 := by
  intro e
  have := nI_pos h
  rw [e] at this
  exact this (by decide)
theorem c_readRoom {M : zM} {B : Nat → Nat} {e p : Nat} (hS : ST M) (hB : TB M B) (hr : CR M e p 0) (he : e ≤ 260) (hp : p ≤ e) : f_X6_readRoom 39 M = some (if rmF B e p = 0 then nI (nmN B e 2 p) else -1, tpM M (p + rl B e 2 p) (rmF B e p)) := by
  have hb := vl_b (B := B) (e := e) (p := p) (d := 2) (by omega)
  rw [f_X6_readRoom, (ST.a hS (o := 39) (k := 0) (a := 1) (by decide)), z_rd_eq, zl_eq, z_rd_eq, show (2 : Int32) = nI 2 from rfl, c_number hS hB hr he hp (by omega) (by omega), z_call_eq]
  unfold rmF
  by_cases q : nmF B e 2 p = 0
  · rw [if_pos q, if_pos q]
    by_cases z : 24 ≤ nmN B e 2 p
    · have s1 : ST (tpM M (p + rl B e 2 p) (nmF B e 2 p)) := hS.to rfl
      rw [if_neg (show ¬ nI (nmN B e 2 p) < (24 : Int32) from nI_nlt (b := 24) z (by unfold nmN; omega)), (ST.a s1 (o := 39) (k := 0) (a := 1) (by decide)), z_rd_eq, q, c_fail (tpM_cr hr), z_call_eq, if_pos z, tpM_tpM, hr.2.1, if_neg (flt_nz (by omega) (by omega) (by omega))]
      rfl
    · rw [if_pos (show nI (nmN B e 2 p) < (24 : Int32) from (nI_ltI (b := 24) (by unfold nmN; omega) (by omega)).mpr (by omega)), if_neg z, if_pos rfl, q]
  · rw [if_neg q, if_neg q, if_pos (by decide), if_neg q]
theorem c_readRoomF {M : zM} {e p : Nat} {f : Int32} (hS : ST M) (hr : CR M e p f) (hf : f ≠ 0) : f_X6_readRoom 39 M = some (-1, M) := by
  rw [f_X6_readRoom, (ST.a hS (o := 39) (k := 0) (a := 1) (by decide)), z_rd_eq, zl_eq, z_rd_eq, c_numberF hr hf, z_call_eq, if_pos (by decide)]
theorem m_readsRoom {M : zM} {B : Nat → Nat} {e p : Nat} (hS : ST M) (hB : TB M B) (hr : MR M e p) (he : e ≤ 260) (hp : p ≤ e) : ∃ M', NMr e M M' (f_X12_readsRoom 54 M) (p + rl B e 2 p) (nmN B e 2 p) (rmF B e p) := by
  have hb := vl_b (B := B) (e := e) (p := p) (d := 2) (by omega)
  obtain ⟨M1, i1, i2, i3, i4⟩ := m_amount (d := 2) hS hB hr he hp (by omega) (by omega)
  rw [f_X12_readsRoom, zl_eq, show (2 : Int32) = nI 2 from rfl, i1, z_call_eq]
  unfold rmF
  by_cases q : nmF B e 2 p = 0
  · obtain ⟨j1, j2⟩ := i3 q
    rw [if_pos q, if_neg (by decide), j2, if_pos q]
    by_cases z : 24 ≤ nmN B e 2 p
    · have hnz : flt 3 p ≠ 0 := flt_nz (by omega) (by omega) (by omega)
      have hroom : f_X12_isRoom (nI (nmN B e 2 p)) M1 = some (0, M1) := by
        rw [f_X12_isRoom, show (23 : Int32) = nI 23 from rfl, e_in0 (by omega) (Or.inr ((nI_ltI (by omega) (by unfold nmN; omega)).mpr (by omega))), z_call_eq]
        rfl
      rw [hroom, z_call_eq, if_pos rfl, hr.1, show (3 : Int32) = nI 3 from rfl, m_wrN, z_call_eq, if_pos rfl, if_pos z]
      exact ⟨(zu M1.1 54 7 (flt 3 p), M1.2), by rw [if_neg hnz], i2.tr (MX.s54 (by simp) (by simp)), fun h => absurd h hnz, fun _ => zu_same M1.1 54 7 _⟩
    · rw [e_room2 (by omega), z_call_eq, if_neg (by decide), if_neg z]
      exact ⟨M1, rfl, i2, fun _ => ⟨j1, j2⟩, fun h => absurd rfl h⟩
  · rw [if_neg q, if_pos rfl, if_neg q]
    exact ⟨M1, by rw [if_neg q], i2, fun h => absurd h q, i4⟩
