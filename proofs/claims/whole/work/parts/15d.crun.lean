/-! the class runs a law's steps: the loop -/
theorem c_s33 {M : zM} {q e k i f nc : Nat} (hq : LO q) (hS : ST M) (hk : k < e) (he : e ≤ nc) (hnc : nc ≤ 240) (hi : i < 240) (h6 : M.1 q 6 = nI nc) (h11 : M.1 q 11 = 0) (hs : M.1 (q + 1) k = 33) (hh : M.1 q 10 = 0 ∨ M.1 q 10 = 1) : f_X4_run_20 q (nI e) (f + 1) (nI k) (nI i) M = f_X4_run_20 q (nI e) f (nI (k + 1)) (nI (i + 1)) (zu M.1 q 10 (1 - M.1 q 10), M.2) := by
  obtain ⟨l1, l2, l3, l4, l5, l6, l7⟩ := hq.lns
  obtain ⟨r1, r2, r3, r4, r5, r6, r7⟩ := hq.rs hS
  rw [f_X4_run_20, if_neg (show ¬ (240 : Int32) ≤ nI i from nI_ge (b := 240) hi (by omega)), if_neg (nI_pos (by omega)), if_neg (nI_ge hk (by omega)), h6, if_neg (nI_ge (show k < nc by omega) (by omega)), h11, if_pos rfl, r1, z_rd_eq, l1, if_pos (by rw [z_ixN (by omega)]; omega), zl_eq, zl_eq, nI_1, nI_clamp (by omega), hs, if_pos (by decide)]
  rcases hh with hh | hh
  · rw [hh, if_pos rfl, f_X4_run_223, if_pos (by decide), zl_eq, f_X4_run_273, zl_eq, nI_1]; rfl
  · rw [hh, if_neg (by decide), f_X4_run_223, if_pos (by decide), zl_eq, f_X4_run_273, zl_eq, nI_1]; rfl
theorem c_sAr {M : zM} {q e k i f nc : Nat} (hq : LO q) (hS : ST M) (hk : k < e) (he : e ≤ nc) (hnc : nc ≤ 240) (hi : i < 240) (h6 : M.1 q 6 = nI nc) (h11 : M.1 q 11 = 0) {j : Nat} (hj : j < 5) (hs : M.1 (q + 1) k = ars j) : f_X4_run_20 q (nI e) (f + 1) (nI k) (nI i) M = z_call (f_X4_reckonTwo q (ars j) M) fun _ M_2 => f_X4_run_20 q (nI e) f (nI (k + 1)) (nI (i + 1)) M_2 := by
  obtain ⟨l1, l2, l3, l4, l5, l6, l7⟩ := hq.lns
  obtain ⟨r1, r2, r3, r4, r5, r6, r7⟩ := hq.rs hS
  rcases (show j = 0 ∨ j = 1 ∨ j = 2 ∨ j = 3 ∨ j = 4 by omega) with rfl | rfl | rfl | rfl | rfl
  · rw [f_X4_run_20, if_neg (show ¬ (240 : Int32) ≤ nI i from nI_ge (b := 240) hi (by omega)), if_neg (nI_pos (by omega)), if_neg (nI_ge hk (by omega)), h6, if_neg (nI_ge (show k < nc by omega) (by omega)), h11, if_pos rfl, r1, z_rd_eq, l1, if_pos (by rw [z_ixN (by omega)]; omega), zl_eq, zl_eq, nI_1, nI_clamp (by omega), hs, if_neg (by decide), if_neg (by decide), if_neg (by decide), if_neg (by decide), if_pos (by decide), f_X4_run_238]; simp only [f_X4_run_273, zl_eq, nI_1]
  · rw [f_X4_run_20, if_neg (show ¬ (240 : Int32) ≤ nI i from nI_ge (b := 240) hi (by omega)), if_neg (nI_pos (by omega)), if_neg (nI_ge hk (by omega)), h6, if_neg (nI_ge (show k < nc by omega) (by omega)), h11, if_pos rfl, r1, z_rd_eq, l1, if_pos (by rw [z_ixN (by omega)]; omega), zl_eq, zl_eq, nI_1, nI_clamp (by omega), hs, if_neg (by decide), if_neg (by decide), if_neg (by decide), if_neg (by decide), if_neg (by decide), if_pos (by decide), f_X4_run_238]; simp only [f_X4_run_273, zl_eq, nI_1]
  · rw [f_X4_run_20, if_neg (show ¬ (240 : Int32) ≤ nI i from nI_ge (b := 240) hi (by omega)), if_neg (nI_pos (by omega)), if_neg (nI_ge hk (by omega)), h6, if_neg (nI_ge (show k < nc by omega) (by omega)), h11, if_pos rfl, r1, z_rd_eq, l1, if_pos (by rw [z_ixN (by omega)]; omega), zl_eq, zl_eq, nI_1, nI_clamp (by omega), hs, if_neg (by decide), if_neg (by decide), if_neg (by decide), if_pos (by decide), f_X4_run_238]; simp only [f_X4_run_273, zl_eq, nI_1]
  · rw [f_X4_run_20, if_neg (show ¬ (240 : Int32) ≤ nI i from nI_ge (b := 240) hi (by omega)), if_neg (nI_pos (by omega)), if_neg (nI_ge hk (by omega)), h6, if_neg (nI_ge (show k < nc by omega) (by omega)), h11, if_pos rfl, r1, z_rd_eq, l1, if_pos (by rw [z_ixN (by omega)]; omega), zl_eq, zl_eq, nI_1, nI_clamp (by omega), hs, if_neg (by decide), if_neg (by decide), if_neg (by decide), if_neg (by decide), if_neg (by decide), if_neg (by decide), if_pos (by decide), f_X4_run_238]; simp only [f_X4_run_273, zl_eq, nI_1]
  · rw [f_X4_run_20, if_neg (show ¬ (240 : Int32) ≤ nI i from nI_ge (b := 240) hi (by omega)), if_neg (nI_pos (by omega)), if_neg (nI_ge hk (by omega)), h6, if_neg (nI_ge (show k < nc by omega) (by omega)), h11, if_pos rfl, r1, z_rd_eq, l1, if_pos (by rw [z_ixN (by omega)]; omega), zl_eq, zl_eq, nI_1, nI_clamp (by omega), hs, if_neg (by decide), if_pos (by decide), f_X4_run_238]; simp only [f_X4_run_273, zl_eq, nI_1]
theorem c_sCm {M : zM} {q e k i f nc : Nat} (hq : LO q) (hS : ST M) (hk : k < e) (he : e ≤ nc) (hnc : nc ≤ 240) (hi : i < 240) (h6 : M.1 q 6 = nI nc) (h11 : M.1 q 11 = 0) {j : Nat} (hj : j < 3) (hs : M.1 (q + 1) k = cms j) : f_X4_run_20 q (nI e) (f + 1) (nI k) (nI i) M = z_call (f_X4_compareTwo q (cms j) M) fun _ M_2 => f_X4_run_20 q (nI e) f (nI (k + 1)) (nI (i + 1)) M_2 := by
  obtain ⟨l1, l2, l3, l4, l5, l6, l7⟩ := hq.lns
  obtain ⟨r1, r2, r3, r4, r5, r6, r7⟩ := hq.rs hS
  rcases (show j = 0 ∨ j = 1 ∨ j = 2 by omega) with rfl | rfl | rfl
  · rw [f_X4_run_20, if_neg (show ¬ (240 : Int32) ≤ nI i from nI_ge (b := 240) hi (by omega)), if_neg (nI_pos (by omega)), if_neg (nI_ge hk (by omega)), h6, if_neg (nI_ge (show k < nc by omega) (by omega)), h11, if_pos rfl, r1, z_rd_eq, l1, if_pos (by rw [z_ixN (by omega)]; omega), zl_eq, zl_eq, nI_1, nI_clamp (by omega), hs, if_neg (by decide), if_neg (by decide), if_neg (by decide), if_neg (by decide), if_neg (by decide), if_neg (by decide), if_neg (by decide), if_pos (by decide), f_X4_run_229]; simp only [f_X4_run_273, zl_eq, nI_1]
  · rw [f_X4_run_20, if_neg (show ¬ (240 : Int32) ≤ nI i from nI_ge (b := 240) hi (by omega)), if_neg (nI_pos (by omega)), if_neg (nI_ge hk (by omega)), h6, if_neg (nI_ge (show k < nc by omega) (by omega)), h11, if_pos rfl, r1, z_rd_eq, l1, if_pos (by rw [z_ixN (by omega)]; omega), zl_eq, zl_eq, nI_1, nI_clamp (by omega), hs, if_neg (by decide), if_neg (by decide), if_neg (by decide), if_neg (by decide), if_neg (by decide), if_neg (by decide), if_neg (by decide), if_neg (by decide), if_neg (by decide), if_pos (by decide), f_X4_run_229]; simp only [f_X4_run_273, zl_eq, nI_1]
  · rw [f_X4_run_20, if_neg (show ¬ (240 : Int32) ≤ nI i from nI_ge (b := 240) hi (by omega)), if_neg (nI_pos (by omega)), if_neg (nI_ge hk (by omega)), h6, if_neg (nI_ge (show k < nc by omega) (by omega)), h11, if_pos rfl, r1, z_rd_eq, l1, if_pos (by rw [z_ixN (by omega)]; omega), zl_eq, zl_eq, nI_1, nI_clamp (by omega), hs, if_neg (by decide), if_neg (by decide), if_neg (by decide), if_neg (by decide), if_neg (by decide), if_neg (by decide), if_neg (by decide), if_neg (by decide), if_pos (by decide), f_X4_run_229]; simp only [f_X4_run_273, zl_eq, nI_1]
theorem c_s38 {M : zM} {q e k i f nc : Nat} (hq : LO q) (hS : ST M) (hk : k < e) (he : e ≤ nc) (hnc : nc ≤ 240) (hi : i < 240) (h6 : M.1 q 6 = nI nc) (h11 : M.1 q 11 = 0) {t : Nat} (hs : M.1 (q + 1) k = 38) (hv : M.1 (q + 2) k = nI t) : f_X4_run_20 q (nI e) (f + 1) (nI k) (nI i) M = if M.1 q 10 = 0 then f_X4_run_20 q (nI e) f (nI t) (nI (i + 1)) M else f_X4_run_20 q (nI e) f (nI (k + 1)) (nI (i + 1)) M := by
  obtain ⟨l1, l2, l3, l4, l5, l6, l7⟩ := hq.lns
  obtain ⟨r1, r2, r3, r4, r5, r6, r7⟩ := hq.rs hS
  rw [f_X4_run_20, if_neg (show ¬ (240 : Int32) ≤ nI i from nI_ge (b := 240) hi (by omega)), if_neg (nI_pos (by omega)), if_neg (nI_ge hk (by omega)), h6, if_neg (nI_ge (show k < nc by omega) (by omega)), h11, if_pos rfl, r1, z_rd_eq, l1, if_pos (by rw [z_ixN (by omega)]; omega), zl_eq, zl_eq, nI_1, nI_clamp (by omega), hs, if_neg (by decide), if_neg (by decide), if_pos (by decide), r2, z_rd_eq, l2, if_pos (show z_ix (nI k) 240 = true from by rw [z_ixN (by omega)]; omega), hv]
  simp only [f_X4_run_205, f_X4_run_273, zl_eq, nI_1]
theorem c_s124 {M : zM} {q e k i f nc : Nat} (hq : LO q) (hS : ST M) (hk : k < e) (he : e ≤ nc) (hnc : nc ≤ 240) (hi : i < 240) (h6 : M.1 q 6 = nI nc) (h11 : M.1 q 11 = 0) {t : Nat} (hs : M.1 (q + 1) k = 124) (hv : M.1 (q + 2) k = nI t) : f_X4_run_20 q (nI e) (f + 1) (nI k) (nI i) M = if M.1 q 10 = 0 then f_X4_run_20 q (nI e) f (nI (k + 1)) (nI (i + 1)) M else f_X4_run_20 q (nI e) f (nI t) (nI (i + 1)) M := by
  obtain ⟨l1, l2, l3, l4, l5, l6, l7⟩ := hq.lns
  obtain ⟨r1, r2, r3, r4, r5, r6, r7⟩ := hq.rs hS
  rw [f_X4_run_20, if_neg (show ¬ (240 : Int32) ≤ nI i from nI_ge (b := 240) hi (by omega)), if_neg (nI_pos (by omega)), if_neg (nI_ge hk (by omega)), h6, if_neg (nI_ge (show k < nc by omega) (by omega)), h11, if_pos rfl, r1, z_rd_eq, l1, if_pos (by rw [z_ixN (by omega)]; omega), zl_eq, zl_eq, nI_1, nI_clamp (by omega), hs, if_neg (by decide), if_neg (by decide), if_neg (by decide), if_neg (by decide), if_neg (by decide), if_neg (by decide), if_neg (by decide), if_neg (by decide), if_neg (by decide), if_neg (by decide), if_pos (by decide), r2, z_rd_eq, l2, if_pos (show z_ix (nI k) 240 = true from by rw [z_ixN (by omega)]; omega), hv]
  simp only [f_X4_run_182, f_X4_run_273, zl_eq, nI_1]
theorem c_s48 {M : zM} {q e k i f nc : Nat} (hq : LO q) (hS : ST M) (hk : k < e) (he : e ≤ nc) (hnc : nc ≤ 240) (hi : i < 240) (h6 : M.1 q 6 = nI nc) (h11 : M.1 q 11 = 0) (hs : M.1 (q + 1) k = 48) : f_X4_run_20 q (nI e) (f + 1) (nI k) (nI i) M = z_call (f_X4_push q (M.1 (q + 2) k) M) fun _ M_2 => f_X4_run_20 q (nI e) f (nI (k + 1)) (nI (i + 1)) M_2 := by
  obtain ⟨l1, l2, l3, l4, l5, l6, l7⟩ := hq.lns
  obtain ⟨r1, r2, r3, r4, r5, r6, r7⟩ := hq.rs hS
  rw [f_X4_run_20, if_neg (show ¬ (240 : Int32) ≤ nI i from nI_ge (b := 240) hi (by omega)), if_neg (nI_pos (by omega)), if_neg (nI_ge hk (by omega)), h6, if_neg (nI_ge (show k < nc by omega) (by omega)), h11, if_pos rfl, r1, z_rd_eq, l1, if_pos (by rw [z_ixN (by omega)]; omega), zl_eq, zl_eq, nI_1, nI_clamp (by omega), hs, if_neg (by decide), if_neg (by decide), if_neg (by decide), if_neg (by decide), if_neg (by decide), if_neg (by decide), if_neg (by decide), if_neg (by decide), if_neg (by decide), if_neg (by decide), if_neg (by decide), if_pos (by decide), r2, z_rd_eq, l2, if_pos (by rw [z_ixN (by omega)]; omega), f_X4_run_270]
  simp only [f_X4_run_273, zl_eq, nI_1]
theorem c_sLe {M : zM} {q e k i f nc : Nat} (hq : LO q) (hS : ST M) (hk : k < e) (he : e ≤ nc) (hnc : nc ≤ 240) (hi : i < 240) (h6 : M.1 q 6 = nI nc) (h11 : M.1 q 11 = 0) {j o r p m : Nat} {N : Nat → Nat} (hO : SO o) (hL : LK M q o N r p m) (hr : r < 24) (hp : p < 24) (hh : N 697 ≤ 99999) (hj : j < 8) (hs : M.1 (q + 1) k = ltr j) : f_X4_run_20 q (nI e) (f + 1) (nI k) (nI i) M = z_call (f_X4_push q (fcs N r p m j) M) fun _ M_2 => f_X4_run_20 q (nI e) f (nI (k + 1)) (nI (i + 1)) M_2 := by
  obtain ⟨l1, l2, l3, l4, l5, l6, l7⟩ := hq.lns
  obtain ⟨r1, r2, r3, r4, r5, r6, r7⟩ := hq.rs hS
  have hl := c_letter hq hO hS hL hr hp hh hj
  rcases (show j = 0 ∨ j = 1 ∨ j = 2 ∨ j = 3 ∨ j = 4 ∨ j = 5 ∨ j = 6 ∨ j = 7 by omega) with rfl | rfl | rfl | rfl | rfl | rfl | rfl | rfl
  · rw [f_X4_run_20, if_neg (show ¬ (240 : Int32) ≤ nI i from nI_ge (b := 240) hi (by omega)), if_neg (nI_pos (by omega)), if_neg (nI_ge hk (by omega)), h6, if_neg (nI_ge (show k < nc by omega) (by omega)), h11, if_pos rfl, r1, z_rd_eq, l1, if_pos (by rw [z_ixN (by omega)]; omega), zl_eq, zl_eq, nI_1, nI_clamp (by omega), hs, if_neg (by decide), if_neg (by decide), if_neg (by decide), if_neg (by decide), if_neg (by decide), if_neg (by decide), if_neg (by decide), if_neg (by decide), if_neg (by decide), if_neg (by decide), if_neg (by decide), if_neg (by decide), hl, z_call_eq, f_X4_run_270]; simp only [f_X4_run_273, zl_eq, nI_1]
  · rw [f_X4_run_20, if_neg (show ¬ (240 : Int32) ≤ nI i from nI_ge (b := 240) hi (by omega)), if_neg (nI_pos (by omega)), if_neg (nI_ge hk (by omega)), h6, if_neg (nI_ge (show k < nc by omega) (by omega)), h11, if_pos rfl, r1, z_rd_eq, l1, if_pos (by rw [z_ixN (by omega)]; omega), zl_eq, zl_eq, nI_1, nI_clamp (by omega), hs, if_neg (by decide), if_neg (by decide), if_neg (by decide), if_neg (by decide), if_neg (by decide), if_neg (by decide), if_neg (by decide), if_neg (by decide), if_neg (by decide), if_neg (by decide), if_neg (by decide), if_neg (by decide), hl, z_call_eq, f_X4_run_270]; simp only [f_X4_run_273, zl_eq, nI_1]
  · rw [f_X4_run_20, if_neg (show ¬ (240 : Int32) ≤ nI i from nI_ge (b := 240) hi (by omega)), if_neg (nI_pos (by omega)), if_neg (nI_ge hk (by omega)), h6, if_neg (nI_ge (show k < nc by omega) (by omega)), h11, if_pos rfl, r1, z_rd_eq, l1, if_pos (by rw [z_ixN (by omega)]; omega), zl_eq, zl_eq, nI_1, nI_clamp (by omega), hs, if_neg (by decide), if_neg (by decide), if_neg (by decide), if_neg (by decide), if_neg (by decide), if_neg (by decide), if_neg (by decide), if_neg (by decide), if_neg (by decide), if_neg (by decide), if_neg (by decide), if_neg (by decide), hl, z_call_eq, f_X4_run_270]; simp only [f_X4_run_273, zl_eq, nI_1]
  · rw [f_X4_run_20, if_neg (show ¬ (240 : Int32) ≤ nI i from nI_ge (b := 240) hi (by omega)), if_neg (nI_pos (by omega)), if_neg (nI_ge hk (by omega)), h6, if_neg (nI_ge (show k < nc by omega) (by omega)), h11, if_pos rfl, r1, z_rd_eq, l1, if_pos (by rw [z_ixN (by omega)]; omega), zl_eq, zl_eq, nI_1, nI_clamp (by omega), hs, if_neg (by decide), if_neg (by decide), if_neg (by decide), if_neg (by decide), if_neg (by decide), if_neg (by decide), if_neg (by decide), if_neg (by decide), if_neg (by decide), if_neg (by decide), if_neg (by decide), if_neg (by decide), hl, z_call_eq, f_X4_run_270]; simp only [f_X4_run_273, zl_eq, nI_1]
  · rw [f_X4_run_20, if_neg (show ¬ (240 : Int32) ≤ nI i from nI_ge (b := 240) hi (by omega)), if_neg (nI_pos (by omega)), if_neg (nI_ge hk (by omega)), h6, if_neg (nI_ge (show k < nc by omega) (by omega)), h11, if_pos rfl, r1, z_rd_eq, l1, if_pos (by rw [z_ixN (by omega)]; omega), zl_eq, zl_eq, nI_1, nI_clamp (by omega), hs, if_neg (by decide), if_neg (by decide), if_neg (by decide), if_neg (by decide), if_neg (by decide), if_neg (by decide), if_neg (by decide), if_neg (by decide), if_neg (by decide), if_neg (by decide), if_neg (by decide), if_neg (by decide), hl, z_call_eq, f_X4_run_270]; simp only [f_X4_run_273, zl_eq, nI_1]
  · rw [f_X4_run_20, if_neg (show ¬ (240 : Int32) ≤ nI i from nI_ge (b := 240) hi (by omega)), if_neg (nI_pos (by omega)), if_neg (nI_ge hk (by omega)), h6, if_neg (nI_ge (show k < nc by omega) (by omega)), h11, if_pos rfl, r1, z_rd_eq, l1, if_pos (by rw [z_ixN (by omega)]; omega), zl_eq, zl_eq, nI_1, nI_clamp (by omega), hs, if_neg (by decide), if_neg (by decide), if_neg (by decide), if_neg (by decide), if_neg (by decide), if_neg (by decide), if_neg (by decide), if_neg (by decide), if_neg (by decide), if_neg (by decide), if_neg (by decide), if_neg (by decide), hl, z_call_eq, f_X4_run_270]; simp only [f_X4_run_273, zl_eq, nI_1]
  · rw [f_X4_run_20, if_neg (show ¬ (240 : Int32) ≤ nI i from nI_ge (b := 240) hi (by omega)), if_neg (nI_pos (by omega)), if_neg (nI_ge hk (by omega)), h6, if_neg (nI_ge (show k < nc by omega) (by omega)), h11, if_pos rfl, r1, z_rd_eq, l1, if_pos (by rw [z_ixN (by omega)]; omega), zl_eq, zl_eq, nI_1, nI_clamp (by omega), hs, if_neg (by decide), if_neg (by decide), if_neg (by decide), if_neg (by decide), if_neg (by decide), if_neg (by decide), if_neg (by decide), if_neg (by decide), if_neg (by decide), if_neg (by decide), if_neg (by decide), if_neg (by decide), hl, z_call_eq, f_X4_run_270]; simp only [f_X4_run_273, zl_eq, nI_1]
  · rw [f_X4_run_20, if_neg (show ¬ (240 : Int32) ≤ nI i from nI_ge (b := 240) hi (by omega)), if_neg (nI_pos (by omega)), if_neg (nI_ge hk (by omega)), h6, if_neg (nI_ge (show k < nc by omega) (by omega)), h11, if_pos rfl, r1, z_rd_eq, l1, if_pos (by rw [z_ixN (by omega)]; omega), zl_eq, zl_eq, nI_1, nI_clamp (by omega), hs, if_neg (by decide), if_neg (by decide), if_neg (by decide), if_neg (by decide), if_neg (by decide), if_neg (by decide), if_neg (by decide), if_neg (by decide), if_neg (by decide), if_neg (by decide), if_neg (by decide), if_neg (by decide), hl, z_call_eq, f_X4_run_270]; simp only [f_X4_run_273, zl_eq, nI_1]
/-- class's stack and truth, by the height -/
def CT (M : zM) (q t : Nat) (S : Nat → Int32) : Prop := (t = 100 → M.1 q 9 = nI 0 ∧ M.1 q 10 = S 0 ∧ (S 0 = 0 ∨ S 0 = 1)) ∧ (t ≤ 15 → M.1 q 9 = nI t ∧ ∀ j, j < t → M.1 (q + 7) j = S j)
/-- what the class's run has left -/
def EC (M : zM) (q t : Nat) (o : Option Int32) : Prop := (o = none → M.1 q 11 = 1) ∧ ∀ v, o = some v → M.1 q 11 = 0 ∧ (t = 1 → M.1 (q + 7) 0 = v) ∧ (t = 100 → M.1 q 10 = v ∧ (v = 0 ∨ v = 1))
theorem not01 {x : Int32} (h : x = 0 ∨ x = 1) : 1 - x = 0 ∨ 1 - x = 1 := by
  rcases h with rfl | rfl
  · exact Or.inr (by decide)
  · exact Or.inl (by decide)
theorem rk01 {i : Nat} {x y : Int32} (hi : i < 3) : rk (7 + i) x y = 0 ∨ rk (7 + i) x y = 1 := by
  rcases (show i = 0 ∨ i = 1 ∨ i = 2 by omega) with rfl | rfl | rfl
  · show (if y ≤ x then (0 : Int32) else 1) = 0 ∨ _
    by_cases z : y ≤ x
    · exact Or.inl (if_pos z)
    · exact Or.inr (if_neg z)
  · show (if x ≤ y then (0 : Int32) else 1) = 0 ∨ _
    by_cases z : x ≤ y
    · exact Or.inl (if_pos z)
    · exact Or.inr (if_neg z)
  · show (if x = y then (1 : Int32) else 0) = 0 ∨ _
    by_cases z : x = y
    · exact Or.inr (if_pos z)
    · exact Or.inl (if_neg z)
theorem c_ev {cd sg va : Nat → Int32} {T : Nat → Nat} {e a nc q o r p mu : Nat} {N : Nat → Nat} (hq : LO q) (hO : SO o) (hr : r < 24) (hp : p < 24) (hh : N 697 ≤ 99999) (hnc : nc ≤ 240) (he : e ≤ nc) (hT : ∀ k, a ≤ k → k < e → stC (sg k) (va k) (cd k) T e k) (hTe : T e = 1 ∨ T e = 100) : ∀ m k i f g S (M : zM), a ≤ k → k ≤ e → e - k ≤ m → m < f → m < g → i + m ≤ 240 → ST M → M.1 (q + 1) = sg → M.1 (q + 2) = va → M.1 q 6 = nI nc → M.1 q 11 = 0 → LK M q o N r p mu → CT M q (T k) S → ∃ M', f_X4_run_20 q (nI e) f (nI k) (nI i) M = some ((), M') ∧ FQ q M M' ∧ EC M' q (T e) (ev cd (fcs N r p mu) e g k (hg (T k)) S) := by
  intro m
  induction m with
  | zero =>
    intro k i f g S M hak hke hm hf hg1 hi hS hsg hva h6 h11 hL hCT
    obtain ⟨f, rfl⟩ : ∃ x, f = x + 1 := ⟨f - 1, by omega⟩
    obtain ⟨g, rfl⟩ : ∃ x, g = x + 1 := ⟨g - 1, by omega⟩
    obtain rfl : k = e := by omega
    refine ⟨M, c_ended (by omega), FQ.rf, ?_⟩
    rw [ev_end (Nat.le_refl _)]
    refine ⟨fun h => by simp at h, fun v hv => ?_⟩
    obtain rfl : S 0 = v := by simpa using hv
    exact ⟨h11, fun h => by rw [h] at hCT; exact (hCT.2 (by omega)).2 0 (by omega), fun h => (hCT.1 h).2⟩
  | succ m ih =>
    intro k i f g S M hak hke hm hf hg1 hi hS hsg hva h6 h11 hL hCT
    by_cases hlt : k < e
    · obtain ⟨f, rfl⟩ : ∃ x, f = x + 1 := ⟨f - 1, by omega⟩
      obtain ⟨g, rfl⟩ : ∃ x, g = x + 1 := ⟨g - 1, by omega⟩
      have next : ∀ k' n' S' (M1 : zM), f_X4_run_20 q (nI e) (f + 1) (nI k) (nI i) M = f_X4_run_20 q (nI e) f (nI k') (nI (i + 1)) M1 → ev cd (fcs N r p mu) e (g + 1) k (hg (T k)) S = ev cd (fcs N r p mu) e g k' n' S' → k < k' → k' ≤ e → n' = hg (T k') → FQ q M M1 → M1.1 q 11 = 0 → CT M1 q (T k') S' → ∃ M', f_X4_run_20 q (nI e) (f + 1) (nI k) (nI i) M = some ((), M') ∧ FQ q M M' ∧ EC M' q (T e) (ev cd (fcs N r p mu) e (g + 1) k (hg (T k)) S) := by
        intro k' n' S' M1 h1 h2 hk1 hk2 hn hF h11' hC
        obtain ⟨M', i1, i2, i3⟩ := ih k' (i + 1) f g S' M1 (by omega) hk2 (by omega) (by omega) (by omega) (by omega) (hF.1.st hS) ((hF.c (by omega) (by omega)).trans hsg) ((hF.c (by omega) (by omega)).trans hva) ((hF.2 6 (by decide)).trans h6) h11' (hL.to hq hO hF) hC
        rw [h1, h2, hn]
        exact ⟨M', i1, hF.tr i2, i3⟩
      have push : ∀ (w : Int32), T k < 15 → T (k + 1) = T k + 1 → f_X4_run_20 q (nI e) (f + 1) (nI k) (nI i) M = z_call (f_X4_push q w M) (fun _ M_2 => f_X4_run_20 q (nI e) f (nI (k + 1)) (nI (i + 1)) M_2) → ev cd (fcs N r p mu) e (g + 1) k (hg (T k)) S = ev cd (fcs N r p mu) e g (k + 1) (T k + 1) (va_up S (T k) w) → ∃ M', f_X4_run_20 q (nI e) (f + 1) (nI k) (nI i) M = some ((), M') ∧ FQ q M M' ∧ EC M' q (T e) (ev cd (fcs N r p mu) e (g + 1) k (hg (T k)) S) := by
        intro w t1 t2 h1 h2
        obtain ⟨c1, c2⟩ := hCT.2 (by omega)
        rw [c_push hq hS c1 t1, z_call_eq] at h1
        refine next (k + 1) (T k + 1) _ _ h1 h2 (by omega) (by omega) (by rw [t2, hg_o (by omega)]) (FQ.s.tr (FQ.q (M := (zu M.1 (q + 7) (T k) w, M.2)) (by simp))) ?_ ⟨fun h => by omega, fun _ => ⟨?_, ?_⟩⟩
        · show zu (zu M.1 (q + 7) (T k) w) q 9 (nI (T k + 1)) q 11 = 0
          rw [zu_ne _ _ _ (by decide), zu_cell _ _ _ (by omega), h11]
        · show zu (zu M.1 (q + 7) (T k) w) q 9 (nI (T k + 1)) q 9 = _
          rw [zu_same, t2]
        · intro j hj
          show zu (zu M.1 (q + 7) (T k) w) q 9 (nI (T k + 1)) (q + 7) j = _
          rw [zu_cell _ _ _ (by omega)]
          by_cases z : j = T k
          · rw [z, zu_same, va_eq]
          · rw [zu_ne _ _ _ z, va_ne z]; exact c2 j (by omega)
      have hsk : M.1 (q + 1) k = sg k := by rw [hsg]
      have hvk : M.1 (q + 2) k = va k := by rw [hva]
      rcases hT k hak hlt with (⟨t1, t2, hp'⟩ | ⟨t1, t2, t3, j, hj, hs, hc⟩) | ⟨t1, t2, j, hj, hs, hc⟩ | ⟨t1, t2, hs, hc⟩ | ⟨t1, t2, t, ht1, ht2, t3, hv, hj⟩
      · rcases hp' with ⟨hs, v, hv, hvv, hc⟩ | ⟨j, hj, hs, hc⟩
        · refine push (nI v) t1 t2 ?_ (by rw [hg_o (by omega)]; exact ev_num hlt hc hv)
          rw [c_s48 hq hS hlt he hnc (by omega) h6 h11 (hsk.trans hs), hvk, hvv]
        · exact push (fcs N r p mu j) t1 t2 (c_sLe hq hS hlt he hnc (by omega) h6 h11 hO hL hr hp hh hj (hsk.trans hs)) (by rw [hg_o (by omega)]; exact ev_let hlt hc hj)
      · obtain ⟨c1, c2⟩ := hCT.2 (by omega)
        have h1 := c_sAr (f := f) hq hS hlt he hnc (show i < 240 by omega) h6 h11 hj (hsk.trans hs)
        rw [c_rec hq hS c1 t1 t2 hj, z_call_eq, c2 (T k - 1) (by omega), c2 (T k - 2) (by omega)] at h1
        have h2 := ev_op (fc := fcs N r p mu) (f := g) (n := T k) (S := S) hlt hc (by omega) (by omega)
        by_cases z : (2 + j = 5 ∨ 2 + j = 6) ∧ S (T k - 1) = 0
        · rw [if_pos z] at h1 h2
          have h111 : (zu (zu M.1 q 9 (nI (T k - 1))) q 11 1, M.2).1 q 11 = 1 := zu_same (zu M.1 q 9 (nI (T k - 1))) q 11 1
          obtain ⟨f, rfl⟩ : ∃ x, f = x + 1 := ⟨f - 1, by omega⟩
          rw [hg_o (by omega), h2, h1, c_refused h111]
          exact ⟨_, rfl, (FQ.q (by simp)).tr (FQ.q (M := (zu M.1 q 9 (nI (T k - 1)), M.2)) (by simp)), fun _ => h111, fun v hv => by simp at hv⟩
        · rw [if_neg z] at h1 h2
          refine next (k + 1) (T k - 1) _ _ h1 (by rw [hg_o (by omega)]; exact h2) (by omega) (by omega) (by rw [hg_o (by omega)]; omega) ((FQ.q (by simp)).tr (FQ.s (M := (zu M.1 q 9 (nI (T k - 1)), M.2)))) ?_ ⟨fun h => by omega, fun _ => ⟨?_, ?_⟩⟩
          · show zu (zu M.1 q 9 (nI (T k - 1))) (q + 7) (T k - 2) _ q 11 = 0
            rw [zu_cell _ _ _ (by omega), zu_ne _ _ _ (by decide), h11]
          · show zu (zu M.1 q 9 (nI (T k - 1))) (q + 7) (T k - 2) _ q 9 = _
            rw [zu_cell _ _ _ (by omega), zu_same, show T k - 1 = T (k + 1) by omega]
          · intro j' hj'
            show zu (zu M.1 q 9 (nI (T k - 1))) (q + 7) (T k - 2) _ (q + 7) j' = _
            by_cases y : j' = T k - 2
            · rw [y, zu_same, va_eq]
            · rw [zu_ne _ _ _ y, va_ne y, zu_cell _ _ _ (by omega)]; exact c2 j' (by omega)
      · obtain ⟨c1, c2⟩ := hCT.2 (by omega)
        rw [t1] at c1
        have h1 := c_sCm (f := f) hq hS hlt he hnc (show i < 240 by omega) h6 h11 hj (hsk.trans hs)
        rw [c_cmp hq hS c1 hj, z_call_eq, c2 0 (by omega), c2 1 (by omega)] at h1
        have h2 := ev_op (fc := fcs N r p mu) (f := g) (n := 2) (S := S) hlt hc (by omega) (by omega)
        rw [if_neg (by omega)] at h2
        refine next (k + 1) 1 _ _ h1 (by rw [t1]; exact h2) (by omega) (by omega) (by rw [t2, hg_100]) ((FQ.q (by simp)).tr (FQ.q (M := (zu M.1 q 9 (nI 0), M.2)) (by simp))) ?_ ⟨fun _ => ⟨?_, ?_, ?_⟩, fun h => by omega⟩
        · show zu (zu M.1 q 9 (nI 0)) q 10 _ q 11 = 0
          rw [zu_ne _ _ _ (by decide), zu_ne _ _ _ (by decide), h11]
        · show zu (zu M.1 q 9 (nI 0)) q 10 _ q 9 = _
          rw [zu_ne _ _ _ (by decide), zu_same]
        · show zu (zu M.1 q 9 (nI 0)) q 10 _ q 10 = _
          rw [zu_same, va_eq]
        · rw [va_eq]; exact rk01 hj
      · obtain ⟨c1, c2, c3⟩ := hCT.1 t1
        have h1 := c_s33 (f := f) hq hS hlt he hnc (show i < 240 by omega) h6 h11 (hsk.trans hs) (by rw [c2]; exact c3)
        have h2 := ev_not (fc := fcs N r p mu) (f := g) (n := 1) (S := S) hlt hc
        rw [c2] at h1
        refine next (k + 1) 1 _ _ h1 (by rw [t1]; exact h2) (by omega) (by omega) (by rw [t2, hg_100]) (FQ.q (by simp)) ?_ ⟨fun _ => ⟨?_, ?_, ?_⟩, fun h => by omega⟩
        · show zu M.1 q 10 _ q 11 = 0
          rw [zu_ne _ _ _ (by decide), h11]
        · show zu M.1 q 10 _ q 9 = _
          rw [zu_ne _ _ _ (by decide), c1]
        · show zu M.1 q 10 _ q 10 = _
          rw [zu_same, va_eq]
        · rw [va_eq]; exact not01 c3
      · obtain ⟨c1, c2, c3⟩ := hCT.1 t1
        have out : ∀ o1 : Nat, o1 ≤ 1 → f_X4_run_20 q (nI e) (f + 1) (nI k) (nI i) M = (if S 0 = nI o1 then f_X4_run_20 q (nI e) f (nI t) (nI (i + 1)) M else f_X4_run_20 q (nI e) f (nI (k + 1)) (nI (i + 1)) M) → ev cd (fcs N r p mu) e (g + 1) k 1 S = (if S 0 = nI o1 then ev cd (fcs N r p mu) e g t 1 S else ev cd (fcs N r p mu) e g (k + 1) 0 S) → ∃ M', f_X4_run_20 q (nI e) (f + 1) (nI k) (nI i) M = some ((), M') ∧ FQ q M M' ∧ EC M' q (T e) (ev cd (fcs N r p mu) e (g + 1) k (hg (T k)) S) := by
          intro o1 ho h1 h2
          by_cases z : S 0 = nI o1
          · rw [if_pos z] at h1 h2
            exact next t 1 S M h1 (by rw [t1]; exact h2) ht1 ht2 (by rw [t3, hg_100]) FQ.rf h11 ⟨fun _ => ⟨c1, c2, c3⟩, fun h => by omega⟩
          · rw [if_neg z] at h1 h2
            exact next (k + 1) 0 S M h1 (by rw [t1]; exact h2) (by omega) (by omega) (by rw [t2, hg_o (by omega)]) FQ.rf h11 ⟨fun h => by omega, fun _ => ⟨by rw [t2]; exact c1, fun j hj => by omega⟩⟩
        rcases hj with ⟨hs, hc⟩ | ⟨hs, hc⟩
        · refine out 0 (by omega) ?_ (ev_and hlt hc (by omega))
          rw [c_s38 hq hS hlt he hnc (show i < 240 by omega) h6 h11 (hsk.trans hs) (hvk.trans hv), c2]
          rfl
        · refine out 1 (by omega) ?_ (ev_or hlt hc (by omega))
          rw [c_s124 hq hS hlt he hnc (show i < 240 by omega) h6 h11 (hsk.trans hs) (hvk.trans hv), c2]
          rcases c3 with z | z
          · rw [z, if_pos rfl, if_neg (by decide)]
          · rw [z, if_neg (by decide), if_pos (by decide)]
    · obtain rfl : k = e := by omega
      exact ih k i f g S M hak hke (by omega) (by omega) (by omega) (by omega) hS hsg hva h6 h11 hL hCT
theorem c_run {M : zM} {cd : Nat → Int32} {T : Nat → Nat} {e a nc q o r p mu : Nat} {N : Nat → Nat} (hq : LO q) (hO : SO o) (hr : r < 24) (hp : p < 24) (hh : N 697 ≤ 99999) (hnc : nc ≤ 240) (he : e ≤ nc) (hae : a ≤ e) (h0 : T a = 0) (hT : ∀ k, a ≤ k → k < e → stC (M.1 (q + 1) k) (M.1 (q + 2) k) (cd k) T e k) (hTe : T e = 1 ∨ T e = 100) (hS : ST M) (h6 : M.1 q 6 = nI nc) (hL : LK M q o N r p mu) : ∃ M', f_X4_run q (nI a) (nI e) M = some ((), M') ∧ FQ q M M' ∧ EC M' q (T e) (evR cd (fcs N r p mu) a e) := by
  rw [f_X4_run, zl_eq, zl_eq, zl_eq]
  have f1 : FQ q M (zu (zu (zu M.1 q 9 0) q 10 0) q 11 0, M.2) := ((FQ.q (by simp)).tr (FQ.q (M := (zu M.1 q 9 0, M.2)) (by simp))).tr (FQ.q (M := (zu (zu M.1 q 9 0) q 10 0, M.2)) (by simp))
  obtain ⟨M', i1, i2, i3⟩ := c_ev (cd := cd) (sg := M.1 (q + 1)) (va := M.1 (q + 2)) hq hO hr hp hh hnc he hT hTe (e - a) a 0 zF 241 (fun _ => 0) (zu (zu (zu M.1 q 9 0) q 10 0) q 11 0, M.2) (by omega) hae (Nat.le_refl _) (by unfold zF; omega) (by omega) (by omega) (f1.1.st hS) (f1.c (by omega) (by omega)) (f1.c (by omega) (by omega)) ((f1.2 6 (by decide)).trans h6) (zu_same (zu (zu M.1 q 9 0) q 10 0) q 11 0) (hL.to hq hO f1) (by
    rw [h0]
    refine ⟨fun h => by omega, fun _ => ⟨?_, fun j hj => by omega⟩⟩
    show zu (zu (zu M.1 q 9 0) q 10 0) q 11 0 q 9 = nI 0
    rw [zu_ne _ _ _ (by decide), zu_ne _ _ _ (by decide), zu_same]
    rfl)
  rw [h0] at i3
  exact ⟨M', i1, f1.tr i2, i3⟩
