/-! ropes: costs by floors, and that they are the least -/
def FR : Nat := 1000000
def bar (N : Nat → Nat) (b p : Nat) : Bool := decide (b < N (96 + p))
def cA (N : Nat → Nat) (b p x : Nat) : Nat := if bar N b p then FR else min FR (x + 1)
theorem cA_f {N : Nat → Nat} {b p x : Nat} (h : bar N b p = false) : cA N b p x = min FR (x + 1) := by unfold cA; rw [h]; rfl
theorem cA_t {N : Nat → Nat} {b p x : Nat} (h : bar N b p = true) : cA N b p x = FR := by unfold cA; rw [h]; rfl
theorem cA_le {N : Nat → Nat} {b p x : Nat} : cA N b p x ≤ FR ∧ min FR (x + 1) ≤ cA N b p x := by
  unfold cA
  by_cases h : bar N b p = true
  · rw [if_pos h]; omega
  · rw [if_neg h]; omega
def lr (N : Nat → Nat) (b f : Nat) (d : Nat → Nat) : Nat → Nat
  | 0 => FR
  | i + 1 => cA N b (4 * f + (2 - i)) (min (d (3 - i) + 100) (lr N b f d i))
def rr (N : Nat → Nat) (b f : Nat) (d : Nat → Nat) : Nat → Nat
  | 0 => FR
  | c + 1 => cA N b (4 * f + (c + 1)) (min (d c + 100) (rr N b f d c))
def dr (N : Nat → Nat) (b f : Nat) (t : (Nat → Nat) × (Nat → Nat) × (Nat → Nat)) (c : Nat) : Nat := cA N b (4 * f + c) (min (t.1 c) (min (t.2.1 c) (t.2.2 c) + 100))
def rws (N : Nat → Nat) (b : Nat) : Nat → (Nat → Nat) × (Nat → Nat) × (Nat → Nat)
  | 0 => (fun _ => 0, fun _ => FR, fun _ => FR)
  | j + 1 => (dr N b (5 - j) (rws N b j), fun c => lr N b (5 - j) (dr N b (5 - j) (rws N b j)) (3 - c), rr N b (5 - j) (dr N b (5 - j) (rws N b j)))
def Dd (N : Nat → Nat) (b p : Nat) : Nat := (rws N b (6 - p / 4)).1 (p % 4)
def Ld (N : Nat → Nat) (b p : Nat) : Nat := (rws N b (6 - p / 4)).2.1 (p % 4)
def Rd (N : Nat → Nat) (b p : Nat) : Nat := (rws N b (6 - p / 4)).2.2 (p % 4)
theorem Dd_up {N : Nat → Nat} {b p : Nat} (h : p < 20) : Dd N b p = cA N b p (min (Dd N b (p + 4)) (min (Ld N b (p + 4)) (Rd N b (p + 4)) + 100)) := by
  unfold Dd Ld Rd
  rw [show (p + 4) % 4 = p % 4 by omega, show (p + 4) / 4 = p / 4 + 1 by omega, show 6 - p / 4 = (6 - (p / 4 + 1)) + 1 by omega]
  show dr N b (5 - (6 - (p / 4 + 1))) _ (p % 4) = _
  unfold dr
  rw [show 4 * (5 - (6 - (p / 4 + 1))) + p % 4 = p by omega]
theorem Dd_top {N : Nat → Nat} {b p : Nat} (h : 20 ≤ p) (h2 : p < 24) : Dd N b p = cA N b p 0 := by
  unfold Dd
  rw [show 6 - p / 4 = 0 + 1 by omega]
  show dr N b (5 - 0) _ (p % 4) = _
  unfold dr
  rw [show 4 * (5 - 0) + p % 4 = p by omega]
  rfl
theorem Ld_l {N : Nat → Nat} {b p : Nat} (h : p < 24) (hc : p % 4 < 3) : Ld N b p = cA N b p (min (Dd N b (p + 1) + 100) (Ld N b (p + 1))) := by
  unfold Dd Ld
  rw [show (p + 1) % 4 = p % 4 + 1 by omega, show (p + 1) / 4 = p / 4 by omega, show 6 - p / 4 = (5 - p / 4) + 1 by omega]
  show lr N b (5 - (5 - p / 4)) _ (3 - p % 4) = cA N b p (min (dr N b (5 - (5 - p / 4)) _ (p % 4 + 1) + 100) (lr N b (5 - (5 - p / 4)) _ (3 - (p % 4 + 1))))
  rw [show 3 - p % 4 = (2 - p % 4) + 1 by omega, show 3 - (p % 4 + 1) = 2 - p % 4 by omega]
  show cA N b (4 * (5 - (5 - p / 4)) + (2 - (2 - p % 4))) (min (dr N b (5 - (5 - p / 4)) _ (3 - (2 - p % 4)) + 100) _) = _
  rw [show 4 * (5 - (5 - p / 4)) + (2 - (2 - p % 4)) = p by omega, show 3 - (2 - p % 4) = p % 4 + 1 by omega]
theorem Ld_3 {N : Nat → Nat} {b p : Nat} (h : p < 24) (hc : p % 4 = 3) : Ld N b p = FR := by
  unfold Ld
  rw [hc, show 6 - p / 4 = (5 - p / 4) + 1 by omega]
  rfl
theorem Rd_r {N : Nat → Nat} {b p : Nat} (h : p < 24) (hc : 0 < p % 4) : Rd N b p = cA N b p (min (Dd N b (p - 1) + 100) (Rd N b (p - 1))) := by
  unfold Dd Rd
  rw [show (p - 1) % 4 = p % 4 - 1 by omega, show (p - 1) / 4 = p / 4 by omega, show 6 - p / 4 = (5 - p / 4) + 1 by omega]
  show rr N b (5 - (5 - p / 4)) _ (p % 4) = cA N b p (min (dr N b (5 - (5 - p / 4)) _ (p % 4 - 1) + 100) (rr N b (5 - (5 - p / 4)) _ (p % 4 - 1)))
  conv => lhs; rw [show p % 4 = (p % 4 - 1) + 1 by omega]
  show cA N b (4 * (5 - (5 - p / 4)) + ((p % 4 - 1) + 1)) _ = _
  rw [show 4 * (5 - (5 - p / 4)) + ((p % 4 - 1) + 1) = p by omega]
theorem Rd_0 {N : Nat → Nat} {b p : Nat} (h : p < 24) (hc : p % 4 = 0) : Rd N b p = FR := by
  unfold Rd
  rw [hc, show 6 - p / 4 = (5 - p / 4) + 1 by omega]
  rfl
theorem DLR_le {N : Nat → Nat} {b p : Nat} (h : p < 24) : Dd N b p ≤ FR ∧ Ld N b p ≤ FR ∧ Rd N b p ≤ FR := by
  refine ⟨?_, ?_, ?_⟩
  · by_cases q : p < 20
    · rw [Dd_up q]; exact cA_le.1
    · rw [Dd_top (by omega) h]; exact cA_le.1
  · by_cases q : p % 4 < 3
    · rw [Ld_l h q]; exact cA_le.1
    · rw [Ld_3 h (by omega)]; exact Nat.le_refl _
  · by_cases q : 0 < p % 4
    · rw [Rd_r h q]; exact cA_le.1
    · rw [Rd_0 h (by omega)]; exact Nat.le_refl _
/-- the least costs of a place by the way in which it is come to, turning back among them -/
def dsp (N : Nat → Nat) (b p w : Nat) : Nat :=
  if w = 0 then Dd N b p
  else if w = 1 then (if p % 4 < 3 ∧ bar N b p = false then min (Ld N b p) (Rd N b (p + 1) + 101) else FR)
  else (if 0 < p % 4 ∧ bar N b p = false then min (Rd N b p) (Ld N b (p - 1) + 101) else FR)
theorem dsp0 {N : Nat → Nat} {b p : Nat} : dsp N b p 0 = Dd N b p := rfl
theorem dsp1 {N : Nat → Nat} {b p : Nat} : dsp N b p 1 = if p % 4 < 3 ∧ bar N b p = false then min (Ld N b p) (Rd N b (p + 1) + 101) else FR := rfl
theorem dsp2 {N : Nat → Nat} {b p : Nat} : dsp N b p 2 = if 0 < p % 4 ∧ bar N b p = false then min (Rd N b p) (Ld N b (p - 1) + 101) else FR := rfl
theorem dsp_le {N : Nat → Nat} {b p w : Nat} (h : p < 24) (hw : w < 3) : dsp N b p w ≤ FR := by
  obtain ⟨h1, h2, h3⟩ := DLR_le (N := N) (b := b) h
  rcases (show w = 0 ∨ w = 1 ∨ w = 2 by omega) with rfl | rfl | rfl
  · rw [dsp0]; exact h1
  · rw [dsp1]
    by_cases q : p % 4 < 3 ∧ bar N b p = false
    · rw [if_pos q]; omega
    · rw [if_neg q]; exact Nat.le_refl _
  · rw [dsp2]
    by_cases q : 0 < p % 4 ∧ bar N b p = false
    · rw [if_pos q]; omega
    · rw [if_neg q]; exact Nat.le_refl _
def bnd (u w : Nat) : Nat := if u = w then 0 else 100
/-- from where a place is come to in a way -/
def edg (p w fr : Nat) : Prop := p < 24 ∧ fr < 24 ∧ ((w = 0 ∧ p < 20 ∧ fr = p + 4) ∨ (w = 1 ∧ p % 4 < 3 ∧ fr = p + 1) ∨ (w = 2 ∧ 0 < p % 4 ∧ fr = p - 1))
theorem P1 {N : Nat → Nat} {b p w fr u : Nat} (he : edg p w fr) (hb : bar N b p = false) (hu : u < 3) : dsp N b p w ≤ dsp N b fr u + 1 + bnd u w := by
  obtain ⟨hp, hf, he⟩ := he
  obtain ⟨q1, q2, q3⟩ := DLR_le (N := N) (b := b) hf
  rcases he with ⟨rfl, h20, rfl⟩ | ⟨rfl, hc, rfl⟩ | ⟨rfl, hc, rfl⟩
  · have hD := Dd_up (N := N) (b := b) h20
    rw [cA_f hb] at hD
    rw [dsp0]
    rcases (show u = 0 ∨ u = 1 ∨ u = 2 by omega) with rfl | rfl | rfl
    · rw [dsp0]; show _ ≤ _ + 1 + 0; omega
    · rw [dsp1]
      show _ ≤ _ + 1 + 100
      by_cases q : (p + 4) % 4 < 3 ∧ bar N b (p + 4) = false
      · rw [if_pos q]
        have hr := Rd_r (N := N) (b := b) (p := p + 4 + 1) (by omega) (by omega)
        have hr2 := (cA_le (N := N) (b := b) (p := p + 4 + 1) (x := min (Dd N b (p + 4 + 1 - 1) + 100) (Rd N b (p + 4 + 1 - 1)))).2
        rw [← hr, show p + 4 + 1 - 1 = p + 4 by omega] at hr2
        omega
      · rw [if_neg q]; omega
    · rw [dsp2]
      show _ ≤ _ + 1 + 100
      by_cases q : 0 < (p + 4) % 4 ∧ bar N b (p + 4) = false
      · rw [if_pos q]
        have hr := Ld_l (N := N) (b := b) (p := p + 4 - 1) (by omega) (by omega)
        have hr2 := (cA_le (N := N) (b := b) (p := p + 4 - 1) (x := min (Dd N b (p + 4 - 1 + 1) + 100) (Ld N b (p + 4 - 1 + 1)))).2
        rw [← hr, show p + 4 - 1 + 1 = p + 4 by omega] at hr2
        omega
      · rw [if_neg q]; omega
  · have hL := Ld_l (N := N) (b := b) hp hc
    rw [cA_f hb] at hL
    rw [dsp1, if_pos ⟨hc, hb⟩]
    rcases (show u = 0 ∨ u = 1 ∨ u = 2 by omega) with rfl | rfl | rfl
    · rw [dsp0]; show _ ≤ _ + 1 + 100; omega
    · rw [dsp1]
      show _ ≤ _ + 1 + 0
      by_cases q : (p + 1) % 4 < 3 ∧ bar N b (p + 1) = false
      · rw [if_pos q]
        have hr := Rd_r (N := N) (b := b) (p := p + 1 + 1) (by omega) (by omega)
        have hr2 := (cA_le (N := N) (b := b) (p := p + 1 + 1) (x := min (Dd N b (p + 1 + 1 - 1) + 100) (Rd N b (p + 1 + 1 - 1)))).2
        rw [← hr, show p + 1 + 1 - 1 = p + 1 by omega] at hr2
        omega
      · rw [if_neg q]; omega
    · rw [dsp2]
      show _ ≤ _ + 1 + 100
      by_cases q : 0 < (p + 1) % 4 ∧ bar N b (p + 1) = false
      · rw [if_pos q, show p + 1 - 1 = p by omega]; omega
      · rw [if_neg q]; omega
  · have hR := Rd_r (N := N) (b := b) hp hc
    rw [cA_f hb] at hR
    rw [dsp2, if_pos ⟨hc, hb⟩]
    rcases (show u = 0 ∨ u = 1 ∨ u = 2 by omega) with rfl | rfl | rfl
    · rw [dsp0]; show _ ≤ _ + 1 + 100; omega
    · rw [dsp1]
      show _ ≤ _ + 1 + 100
      by_cases q : (p - 1) % 4 < 3 ∧ bar N b (p - 1) = false
      · rw [if_pos q, show p - 1 + 1 = p by omega]; omega
      · rw [if_neg q]; omega
    · rw [dsp2]
      show _ ≤ _ + 1 + 0
      by_cases q : 0 < (p - 1) % 4 ∧ bar N b (p - 1) = false
      · rw [if_pos q]
        have hr := Ld_l (N := N) (b := b) (p := p - 1 - 1) (by omega) (by omega)
        have hr2 := (cA_le (N := N) (b := b) (p := p - 1 - 1) (x := min (Dd N b (p - 1 - 1 + 1) + 100) (Ld N b (p - 1 - 1 + 1)))).2
        rw [← hr, show p - 1 - 1 + 1 = p - 1 by omega] at hr2
        omega
      · rw [if_neg q]; omega
theorem dsp_b {N : Nat → Nat} {b p w : Nat} (h : p < 24) (hw : w < 3) (hf : dsp N b p w < FR) : bar N b p = false := by
  cases hb : bar N b p with
  | false => rfl
  | true =>
    exfalso
    rcases (show w = 0 ∨ w = 1 ∨ w = 2 by omega) with rfl | rfl | rfl
    · rw [dsp0] at hf
      by_cases q : p < 20
      · rw [Dd_up q, cA_t hb] at hf; omega
      · rw [Dd_top (by omega) h, cA_t hb] at hf; omega
    · rw [dsp1, if_neg (by simp [hb])] at hf; omega
    · rw [dsp2, if_neg (by simp [hb])] at hf; omega
theorem P4 {N : Nat → Nat} {b p w : Nat} (h : p < 24) (hw : w < 3) (hf : dsp N b p w < FR) : (20 ≤ p ∧ w = 0 ∧ dsp N b p w = 1) ∨ ∃ fr u, edg p w fr ∧ u < 3 ∧ dsp N b p w = dsp N b fr u + 1 + bnd u w := by
  have hb := dsp_b h hw hf
  have fin : ∀ fr u X, edg p w fr → u < 3 → dsp N b fr u ≤ X → dsp N b p w = X + 1 + bnd u w → dsp N b p w = dsp N b fr u + 1 + bnd u w := by
    intro fr u X he hu hX e
    have := P1 he hb hu
    omega
  have l0 : ∀ q, q < 24 → dsp N b q 0 ≤ Dd N b q := fun q _ => Nat.le_refl _
  have l1 : ∀ q, q < 24 → dsp N b q 1 ≤ Ld N b q := by
    intro q hq
    rw [dsp1]
    by_cases z : q % 4 < 3 ∧ bar N b q = false
    · rw [if_pos z]; omega
    · rw [if_neg z]
      by_cases z2 : q % 4 < 3
      · rw [Ld_l hq z2, cA_t (by simpa [z2] using z)]; omega
      · rw [Ld_3 hq (by omega)]; omega
  have l2 : ∀ q, q < 24 → dsp N b q 2 ≤ Rd N b q := by
    intro q hq
    rw [dsp2]
    by_cases z : 0 < q % 4 ∧ bar N b q = false
    · rw [if_pos z]; omega
    · rw [if_neg z]
      by_cases z2 : 0 < q % 4
      · rw [Rd_r hq z2, cA_t (by simpa [z2] using z)]; omega
      · rw [Rd_0 hq (by omega)]; omega
  have hFR : FR = 1000000 := rfl
  rcases (show w = 0 ∨ w = 1 ∨ w = 2 by omega) with rfl | rfl | rfl
  · by_cases q : p < 20
    · have he : edg p 0 (p + 4) := ⟨h, by omega, Or.inl ⟨rfl, q, rfl⟩⟩
      have hD := Dd_up (N := N) (b := b) q
      rw [cA_f hb] at hD
      have e0 : dsp N b p 0 = Dd N b p := dsp0
      by_cases z1 : Dd N b (p + 4) ≤ min (Ld N b (p + 4)) (Rd N b (p + 4)) + 100
      · exact Or.inr ⟨p + 4, 0, he, by omega, fin _ _ _ he (by omega) (l0 _ (by omega)) (by show _ = _ + 1 + 0; omega)⟩
      · by_cases z2 : Ld N b (p + 4) ≤ Rd N b (p + 4)
        · exact Or.inr ⟨p + 4, 1, he, by omega, fin _ _ _ he (by omega) (l1 _ (by omega)) (by show _ = _ + 1 + 100; omega)⟩
        · exact Or.inr ⟨p + 4, 2, he, by omega, fin _ _ _ he (by omega) (l2 _ (by omega)) (by show _ = _ + 1 + 100; omega)⟩
    · refine Or.inl ⟨by omega, rfl, ?_⟩
      rw [dsp0, Dd_top (by omega) h, cA_f hb]
      rfl
  · by_cases q : p % 4 < 3
    · have he : edg p 1 (p + 1) := ⟨h, by omega, Or.inr (Or.inl ⟨rfl, q, rfl⟩)⟩
      have hL := Ld_l (N := N) (b := b) h q
      rw [cA_f hb] at hL
      have e1 := dsp1 (N := N) (b := b) (p := p)
      rw [if_pos ⟨q, hb⟩] at e1
      by_cases z0 : Ld N b p ≤ Rd N b (p + 1) + 101
      · by_cases z1 : Dd N b (p + 1) + 100 ≤ Ld N b (p + 1)
        · exact Or.inr ⟨p + 1, 0, he, by omega, fin _ _ _ he (by omega) (l0 _ (by omega)) (by show _ = _ + 1 + 100; omega)⟩
        · exact Or.inr ⟨p + 1, 1, he, by omega, fin _ _ _ he (by omega) (l1 _ (by omega)) (by show _ = _ + 1 + 0; omega)⟩
      · exact Or.inr ⟨p + 1, 2, he, by omega, fin _ _ _ he (by omega) (l2 _ (by omega)) (by show _ = _ + 1 + 100; omega)⟩
    · rw [dsp1, if_neg (by omega)] at hf; omega
  · by_cases q : 0 < p % 4
    · have he : edg p 2 (p - 1) := ⟨h, by omega, Or.inr (Or.inr ⟨rfl, q, rfl⟩)⟩
      have hR := Rd_r (N := N) (b := b) h q
      rw [cA_f hb] at hR
      have e1 := dsp2 (N := N) (b := b) (p := p)
      rw [if_pos ⟨q, hb⟩] at e1
      by_cases z0 : Rd N b p ≤ Ld N b (p - 1) + 101
      · by_cases z1 : Dd N b (p - 1) + 100 ≤ Rd N b (p - 1)
        · exact Or.inr ⟨p - 1, 0, he, by omega, fin _ _ _ he (by omega) (l0 _ (by omega)) (by show _ = _ + 1 + 100; omega)⟩
        · exact Or.inr ⟨p - 1, 2, he, by omega, fin _ _ _ he (by omega) (l2 _ (by omega)) (by show _ = _ + 1 + 0; omega)⟩
      · exact Or.inr ⟨p - 1, 1, he, by omega, fin _ _ _ he (by omega) (l1 _ (by omega)) (by show _ = _ + 1 + 100; omega)⟩
    · rw [dsp2, if_neg (by omega)] at hf; omega
-- few places
def Qp (v k : Nat) : Prop := FR ≤ v ∨ v % 100 ≤ k
theorem Qp_min {a b k : Nat} (ha : Qp a k) (hb : Qp b k) : Qp (min a b) k := by
  by_cases h : a ≤ b
  · rw [Nat.min_eq_left h]; exact ha
  · rw [Nat.min_eq_right (by omega)]; exact hb
theorem Qp_100 {a k : Nat} (ha : Qp a k) : Qp (a + 100) k := by
  unfold Qp at *
  omega
theorem Qp_m {a k k' : Nat} (ha : Qp a k) (h : k ≤ k') : Qp a k' := by
  unfold Qp at *
  omega
theorem Qp_1 {a k : Nat} (ha : Qp a k) (hk : k < 99) : Qp (a + 1) (k + 1) := by
  unfold Qp at *
  omega
theorem Qp_F {k : Nat} : Qp FR k := Or.inl (Nat.le_refl _)
theorem Qp_cA {N : Nat → Nat} {b p a k : Nat} (ha : Qp a k) (hk : k < 99) : Qp (cA N b p a) (k + 1) := by
  unfold cA
  by_cases h : bar N b p = true
  · rw [if_pos h]; exact Qp_F
  · rw [if_neg h]; exact Qp_min Qp_F (Qp_1 ha hk)
theorem Qp_lr {N : Nat → Nat} {b f k : Nat} {d : Nat → Nat} (hd : ∀ c, c < 4 → Qp (d c) k) : ∀ i, i ≤ 3 → k + i < 90 → Qp (lr N b f d i) (k + i) := by
  intro i
  induction i with
  | zero => intro _ _; exact Qp_F
  | succ i ih => intro _ h; exact Qp_cA (k := k + i) (Qp_min (Qp_100 (Qp_m (hd _ (by omega)) (by omega))) (ih (by omega) (by omega))) (by omega)
theorem Qp_rr {N : Nat → Nat} {b f k : Nat} {d : Nat → Nat} (hd : ∀ c, c < 4 → Qp (d c) k) : ∀ i, i ≤ 3 → k + i < 90 → Qp (rr N b f d i) (k + i) := by
  intro i
  induction i with
  | zero => intro _ _; exact Qp_F
  | succ i ih => intro _ h; exact Qp_cA (k := k + i) (Qp_min (Qp_100 (Qp_m (hd _ (by omega)) (by omega))) (ih (by omega) (by omega))) (by omega)
theorem Qp_rws {N : Nat → Nat} {b : Nat} : ∀ j, j ≤ 6 → ∀ c, c < 4 → Qp ((rws N b j).1 c) (4 * j) ∧ Qp ((rws N b j).2.1 c) (4 * j) ∧ Qp ((rws N b j).2.2 c) (4 * j) := by
  intro j
  induction j with
  | zero => intro _ c _; exact ⟨Or.inr (Nat.le_refl _), Qp_F, Qp_F⟩
  | succ j ih =>
    intro hj c hc
    have hd : ∀ c, c < 4 → Qp (dr N b (5 - j) (rws N b j) c) (4 * j + 1) := by
      intro c hc
      obtain ⟨i1, i2, i3⟩ := ih (by omega) c hc
      exact Qp_cA (Qp_min i1 (Qp_100 (Qp_min i2 i3))) (by omega)
    refine ⟨Qp_m (hd c hc) (by omega), Qp_m (Qp_lr hd (3 - c) (by omega) (by omega)) (by omega), Qp_m (Qp_rr hd c (by omega) (by omega)) (by omega)⟩
theorem Qp_dsp {N : Nat → Nat} {b p w : Nat} (h : p < 24) (hw : w < 3) : Qp (dsp N b p w) 25 := by
  have hq : ∀ q, q < 24 → Qp (Dd N b q) 24 ∧ Qp (Ld N b q) 24 ∧ Qp (Rd N b q) 24 := by
    intro q hq
    obtain ⟨i1, i2, i3⟩ := Qp_rws (N := N) (b := b) (6 - q / 4) (by omega) (q % 4) (by omega)
    exact ⟨Qp_m i1 (by omega), Qp_m i2 (by omega), Qp_m i3 (by omega)⟩
  rcases (show w = 0 ∨ w = 1 ∨ w = 2 by omega) with rfl | rfl | rfl
  · exact Qp_m (hq p h).1 (by omega)
  · rw [dsp1]
    by_cases z : p % 4 < 3 ∧ bar N b p = false
    · rw [if_pos z]
      refine Qp_min (Qp_m (hq p h).2.1 (by omega)) ?_
      have := Qp_1 (Qp_100 (hq (p + 1) (by omega)).2.2) (by omega)
      exact this
    · rw [if_neg z]; exact Qp_F
  · rw [dsp2]
    by_cases z : 0 < p % 4 ∧ bar N b p = false
    · rw [if_pos z]
      refine Qp_min (Qp_m (hq p h).2.2 (by omega)) ?_
      have := Qp_1 (Qp_100 (hq (p - 1) (by omega)).2.1) (by omega)
      exact this
    · rw [if_neg z]; exact Qp_F
/-- the least of a place is the same without turning back -/
theorem dsp_min {N : Nat → Nat} {b p : Nat} (h : p < 24) : min (dsp N b p 0) (min (dsp N b p 1) (dsp N b p 2)) = min (Dd N b p) (min (Ld N b p) (Rd N b p)) := by
  obtain ⟨d1, d2, d3⟩ := DLR_le (N := N) (b := b) h
  rw [dsp0]
  have a1 : min (Dd N b p) (min (Ld N b p) (Rd N b p)) ≤ dsp N b p 1 ∧ dsp N b p 1 ≤ Ld N b p := by
    rw [dsp1]
    by_cases z : p % 4 < 3 ∧ bar N b p = false
    · rw [if_pos z]
      have hr := Rd_r (N := N) (b := b) (p := p + 1) (by omega) (by omega)
      have hr2 := (cA_le (N := N) (b := b) (p := p + 1) (x := min (Dd N b (p + 1 - 1) + 100) (Rd N b (p + 1 - 1)))).2
      rw [← hr, show p + 1 - 1 = p by omega] at hr2
      omega
    · rw [if_neg z]
      by_cases z2 : p % 4 < 3
      · rw [Ld_l h z2, cA_t (by simpa [z2] using z)]; omega
      · rw [Ld_3 h (by omega)]; omega
  have a2 : min (Dd N b p) (min (Ld N b p) (Rd N b p)) ≤ dsp N b p 2 ∧ dsp N b p 2 ≤ Rd N b p := by
    rw [dsp2]
    by_cases z : 0 < p % 4 ∧ bar N b p = false
    · rw [if_pos z]
      have hr := Ld_l (N := N) (b := b) (p := p - 1) (by omega) (by omega)
      have hr2 := (cA_le (N := N) (b := b) (p := p - 1) (x := min (Dd N b (p - 1 + 1) + 100) (Ld N b (p - 1 + 1)))).2
      rw [← hr, show p - 1 + 1 = p by omega] at hr2
      omega
    · rw [if_neg z]
      by_cases z2 : 0 < p % 4
      · rw [Rd_r h z2, cA_t (by simpa [z2] using z)]; omega
      · rw [Rd_0 h (by omega)]; omega
  omega
