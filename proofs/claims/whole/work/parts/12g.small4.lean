/-! rocks -/
theorem alone_iff : ∀ k, k < 64 → ∀ p, p < 6 → k.testBit p = true → (k = 2 ^ p ↔ popc k = 1) := by decide +kernel
theorem nbit : ∀ k, k < 64 → ∀ p, p < 6 → (63 ^^^ k).testBit p = !k.testBit p := by decide +kernel
theorem allbit : ∀ n, n ≤ 6 → ∀ p, p < n → (2 ^ n - 1).testBit p = true := by decide +kernel
theorem sim_rocks (N : Nat) (hN : 1000 ≤ N) : Simrocks N Rel := by
  intro S M y0 y1 hR
  obtain ⟨⟨c, m, k, h, hB, hC, hM⟩, hI, hT, hD, hZ⟩ := id hR
  have h6 := hB.1.2.1
  have h5 := hB.1.2.2.1
  have hmm := hB.2.1.2.1
  have e1 : S.1.2.1 = nI c.2.1 := hC.1.2.1
  have e2 : S.1.2.2.1 = nI c.2.2.1 := hC.1.2.2.1
  have e3 : S.1.2.2.2.2.2.2.2.1 = nI m.2.1 := hC.2.1.2.1
  have P := PR.of hB.1 hC.1
  have Q := QR.of hB.1 hM.1
  have SS := SR.of hB.1 hB.2.1 hC.2.1
  have TT := TR.of hB.1 hB.2.1 hM.1 (by omega) hM.2.1
  have hm1 : M.2.2.2.2.2.2.2.2.2.1 (0 + 1) = nI m.2.1 := hM.2.1.2.1
  unfold fX7_rocks fX8_rocks
  rw [e1, e2, e3, c_hasPerson N _ (by omega), m_isPerson N _ (by omega) hM.1.2.2.1, bnd_s, bnd_s, ite_b2i, ite_b2i, c_hasSaying N _ (by omega), m_isSaying N _ (by omega) hM.1.2.2.2.1, bnd_s, bnd_s, ite_b2i, ite_b2i]
  simp only [decide_eq_true_eq]
  by_cases hy0 : 0 ≤ y0.toInt ∧ y0.toInt < c.2.1
  · rw [if_pos hy0, if_pos hy0]
    obtain ⟨p, hp, rfl⟩ := rng hy0
    by_cases hy : 0 ≤ y1.toInt ∧ y1.toInt < c.2.2.1
    · rw [if_pos hy, if_pos hy]
      obtain ⟨v, hv, rfl⟩ := rng hy
      obtain ⟨s1, s2, s3, s4⟩ := SS.2.2 v hv
      obtain ⟨t1, t2, -, -⟩ := TT.2.2.2 v hv
      rw [Nat.zero_add] at t1 t2
      have f64 := lt64 h6 s4
      rw [show (15 : Int32) + nI v = nI (15 + v) from nI_add 15 v, show (20 : Int32) + nI v = nI (20 + v) from nI_add 20 v, ixb_nI (show 15 + v < 525 by omega), ixb_nI (show 20 + v < 525 by omega), t1, t2, m_has N f64 (by omega), bnd_s, m_sideOf N h6 hM.1.2.2.1 TT hv, bnd_s]
      have q2 := fun (side : Nat) (hs : side < 64) => m_person N hN Q (base := 0) (by omega) hm1 (by omega) hp s3 hs
      simp only [show (nI 0 : Int32) = 0 from rfl] at q2
      have cs : fX0_sideOf N (nI c.2.1) S.1.2.2.2.2.2.2.2.2.2.2.2 (nI p) (nI v) = some (nI (if (m.2.2.2.2.2 v).testBit p then m.2.2.2.2.2 v else (2 ^ c.2.1 - 1) &&& (63 ^^^ m.2.2.2.2.2 v))) := by
        unfold fX0_sideOf
        rw [ixb_nI (by omega), s2, s_shr _ f64 p (by omega), ite_b2i, c_all N h6, bnd_s, bnd_s, ixb_nI (by omega), ixb_nI (by omega), s2, s_nand _ (all64 h6) _ f64, s_and _ (all64 h6) _ f64, all_and s4]
        cases (m.2.2.2.2.2 v).testBit p <;> rfl
      rw [cs, bnd_s]
      have hs64 : (if (m.2.2.2.2.2 v).testBit p then m.2.2.2.2.2 v else (2 ^ c.2.1 - 1) &&& (63 ^^^ m.2.2.2.2.2 v)) < 64 := by
        split
        · exact f64
        · exact and_lt64 (all64 h6)
      have hbit : (if (m.2.2.2.2.2 v).testBit p then m.2.2.2.2.2 v else (2 ^ c.2.1 - 1) &&& (63 ^^^ m.2.2.2.2.2 v)).testBit p = true := by
        by_cases q : (m.2.2.2.2.2 v).testBit p = true
        · rw [if_pos q]; exact q
        · rw [if_neg q, Nat.testBit_and, allbit _ h6 p hp, nbit _ f64 p (by omega)]; simpa using q
      have hal := alone_iff _ hs64 p (by omega) hbit
      rw [s_one p (by omega)]
      generalize (if (m.2.2.2.2.2 v).testBit p then m.2.2.2.2.2 v else (2 ^ c.2.1 - 1) &&& (63 ^^^ m.2.2.2.2.2 v)) = side at hs64 hal ⊢
      have hp64 : 2 ^ p < 64 := Nat.pow_lt_pow_right (a := 2) (m := p) (n := 6) (by decide) (by omega)
      rw [q2 side hs64, bnd_s, ixb_nI (by omega), ixb_nI (by omega), c_even N (by omega), bnd_s, bnd_s, s1]
      by_cases hx : side = 2 ^ p
      · have g := c_person N P (al := true) (ev := decide (m.2.1 % 2 = 0)) hp s3
        rw [b2i_t] at g
        rw [if_pos (by rw [hx]), g, bnd_s]
        exact ⟨_, _, rfl, rfl, by simp [hal.mp hx], hR⟩
      · have g := c_person N P (al := false) (ev := decide (m.2.1 % 2 = 0)) hp s3
        rw [b2i_f] at g
        rw [if_neg (fun z => hx ((neq (by omega) (by omega)).mp z)), g, bnd_s]
        exact ⟨_, _, rfl, rfl, by simp [show ¬ popc side = 1 from fun z => hx (hal.mpr z)], hR⟩
    · rw [if_neg hy, if_neg hy]
      exact ⟨_, _, rfl, rfl, rfl, hR⟩
  · rw [if_neg hy0, if_neg hy0]
    exact ⟨_, _, rfl, rfl, rfl, hR⟩
/-! count -/
def sumf (g : Nat → Nat) (b : Nat) : Nat → Nat
  | 0 => 0
  | n + 1 => sumf g b n + g (b + n)
theorem sumf_le {g : Nat → Nat} {b B : Nat} : ∀ n, (∀ i, i < n → g (b + i) ≤ B) → sumf g b n ≤ B * n
  | 0, _ => by simp [sumf]
  | n + 1, h => by
    have h1 := sumf_le n (fun i hi => h i (by omega))
    have h2 := h n (by omega)
    unfold sumf
    rw [Nat.mul_add]; omega
theorem c_ice_L (N : Nat) {nc b : Nat} {g : Nat → Nat} {ice : Nat → Int32} (h12 : nc ≤ 12) (hg : ∀ j, j < nc → ice j = nI (g j)) : ∀ (n j : Nat), b + j ≤ nc → nc - (b + j) < n → fX0_iceFromHereOn_L10 N (nI nc) ice n (nI (sumf g b j)) (nI (b + j)) = some (nI (sumf g b (nc - b)), nI nc) := by
  intro n
  induction n with
  | zero => intro s hs hn; omega
  | succ n ih =>
    intro j hs hn
    rw [fX0_iceFromHereOn_L10]
    by_cases he : b + j = nc
    · rw [if_pos ((nle (by omega) (by omega)).mpr (by omega)), show nc - b = j by omega, he]
    · rw [if_neg (fun z => by have := (nle (by omega) (by omega)).mp z; omega), ixb_nI (by omega), hg (b + j) (by omega), n_s1, nI_add]
      exact ih (j + 1) (by omega) (by omega)
theorem c_juice_L (N : Nat) {nc : Nat} {g : Nat → Nat} {ice : Nat → Int32} (h12 : nc ≤ 5) (hg : ∀ j, j < nc → ice j = nI (g j)) : ∀ (n j : Nat), j ≤ nc → nc - j < n → fX0_juiceOfAll_L4 N (nI nc) ice n (nI (sumf g 0 j)) (nI j) = some (nI (sumf g 0 nc), nI nc) := by
  intro n
  induction n with
  | zero => intro s hs hn; omega
  | succ n ih =>
    intro j hs hn
    rw [fX0_juiceOfAll_L4]
    by_cases he : j = nc
    · rw [if_pos ((nle (by omega) (by omega)).mpr (by omega)), he]
    · rw [if_neg (fun z => by have := (nle (by omega) (by omega)).mp z; omega), ixb_nI (by omega), hg j (by omega), n_s1, nI_add]
      have := ih (j + 1) (by omega) (by omega)
      rw [show sumf g 0 (j + 1) = sumf g 0 j + g j by rw [sumf, Nat.zero_add]] at this
      exact this
theorem m_sum_L (N : Nat) {pl e b : Nat} {g : Nat → Nat} {row : Nat → Int32} {x2 : Int32} (h : pl + e ≤ 500) (hg : ∀ j, j < e → row (pl + j) = nI (g j)) : ∀ (n j : Nat), b + j ≤ e → e - (b + j) < n → fX8_sumFrom_L6 N (nI pl) x2 (nI e) row n (nI (sumf g b j)) (nI (b + j)) = some (nI (sumf g b (e - b)), nI e) := by
  intro n
  induction n with
  | zero => intro s hs hn; omega
  | succ n ih =>
    intro j hs hn
    rw [fX8_sumFrom_L6]
    by_cases he : b + j = e
    · rw [if_pos ((nle (by omega) (by omega)).mpr (by omega)), show e - b = j by omega, he]
    · rw [if_neg (fun z => by have := (nle (by omega) (by omega)).mp z; omega), nI_add, ixb_nI (by omega), hg (b + j) (by omega), n_s1, nI_add]
      exact ih (j + 1) (by omega) (by omega)
theorem sim_count (N : Nat) (hN : 1000 ≤ N) : Simcount N Rel := by
  intro S M y0 hR
  obtain ⟨⟨c, m, k, h, hB, hC, hM⟩, hI, hT, hD, hZ⟩ := id hR
  have h12 := hB.1.1
  have h5 := hB.1.2.2.1
  have hbn := hB.2.1.1
  have e1 : S.1.1 = nI c.1 := hC.1.1
  have e2 : S.1.2.2.1 = nI c.2.2.1 := hC.1.2.2.1
  have e3 : S.1.2.2.2.2.2.2.1 = nI m.1 := hC.2.1.1
  have l1 : fX0_iceFromHereOn N (nI c.1) (nI m.1) S.1.2.2.2.2.2.2.2.2.2.1 = some (nI (sumf m.2.2.2.1 m.1 (c.1 - m.1))) := by
    unfold fX0_iceFromHereOn
    have := c_ice_L N (b := m.1) h12 hC.2.1.2.2.2.1 N 0 (by omega) (by omega)
    exact bnd_eq this
  have l2 : fX8_sumFrom N M.2.2.2.2.2.2.2.2.2.1 3 (nI m.1) (nI c.1) = some (nI (sumf m.2.2.2.1 m.1 (c.1 - m.1))) := by
    unfold fX8_sumFrom
    have := m_sum_L N (pl := 3) (b := m.1) (e := c.1) (x2 := nI m.1) (by omega) (z15 (b := 3) hM.2.1.2.2.2.1) N 0 (by omega) (by omega)
    exact bnd_eq this
  have l3 : fX0_juiceOfAll N (nI c.2.2.1) S.1.2.2.2.2.2.2.2.2.2.2.1 = some (nI (sumf m.2.2.2.2.1 0 c.2.2.1)) := by
    unfold fX0_juiceOfAll
    have := c_juice_L N h5 (fun j hj => (hC.2.1.2.2.2.2 j hj).1) N 0 (by omega) (by omega)
    exact bnd_eq this
  have l4 : fX8_sumFrom N M.2.2.2.2.2.2.2.2.2.1 15 0 (nI c.2.2.1) = some (nI (sumf m.2.2.2.2.1 0 c.2.2.1)) := by
    unfold fX8_sumFrom
    have := m_sum_L N (pl := 15) (b := 0) (e := c.2.2.1) (x2 := 0) (by omega) (z15 (b := 15) (fun j hj => (hM.2.1.2.2.2.2 j hj).1)) N 0 (by omega) (by omega)
    exact bnd_eq this
  have r0 : M.2.2.2.2.2.2.2.2.2.1 0 = nI m.1 := hM.2.1.1
  unfold fX7_count fX8_count
  rw [e1, e2, e3, hM.1.2.1, hM.1.2.2.2.1, r0, l1, l2, l3, l4]
  by_cases c0 : y0 = 0
  · rw [if_pos c0, if_pos c0]; exact ⟨_, _, rfl, rfl, rfl, hR⟩
  rw [if_neg c0, if_neg c0]
  by_cases c1 : y0 = 1
  · rw [if_pos c1, if_pos c1]; exact ⟨_, _, rfl, rfl, hC.1.2.1.trans hM.1.2.2.1.symm, hR⟩
  rw [if_neg c1, if_neg c1]
  by_cases c2 : y0 = 2
  · rw [if_pos c2, if_pos c2]; exact ⟨_, _, rfl, rfl, rfl, hR⟩
  rw [if_neg c2, if_neg c2]
  by_cases c3 : y0 = 3
  · rw [if_pos c3, if_pos c3]; exact ⟨_, _, rfl, rfl, rfl, hR⟩
  rw [if_neg c3, if_neg c3]
  by_cases c4 : y0 = 4
  · rw [if_pos c4, if_pos c4]; exact ⟨_, _, rfl, rfl, hC.2.1.2.1.trans hM.2.1.2.1.symm, hR⟩
  rw [if_neg c4, if_neg c4]
  by_cases c5 : y0 = 5
  · rw [if_pos c5, if_pos c5]; exact ⟨_, _, rfl, rfl, hC.1.2.2.2.1.trans hM.1.1.symm, hR⟩
  rw [if_neg c5, if_neg c5]
  by_cases c6 : y0 = 6
  · rw [if_pos c6, if_pos c6]; exact ⟨_, _, rfl, rfl, rfl, hR⟩
  rw [if_neg c6, if_neg c6]
  by_cases c7 : y0 = 7
  · rw [if_pos c7, if_pos c7]; exact ⟨_, _, rfl, rfl, rfl, hR⟩
  rw [if_neg c7, if_neg c7]
  by_cases c8 : y0 = 8
  · rw [if_pos c8, if_pos c8]; exact ⟨_, _, rfl, rfl, hC.2.2.1.trans hM.2.2.1.symm, hR⟩
  rw [if_neg c8, if_neg c8]
  exact ⟨_, _, rfl, rfl, rfl, hR⟩
/-! type -/
theorem chr_nar {v : Nat} (h : v ≤ 126) : vp_nar .char (((nI v).toUInt32 % 65536).toInt32) = nI v := by
  have : ∀ v, v < 127 → vp_nar .char (((nI v).toUInt32 % 65536).toInt32) = nI v := by decide +kernel
  exact this v (by omega)
theorem sim_type (N : Nat) : Simtype N Rel := by
  intro S M y0 hR
  obtain ⟨hRC, hI, ⟨tl, ht, t1, t2, t3⟩, hD, hZ⟩ := id hR
  unfold fX7_type fX8_type
  rw [c_within, m_in32, bnd_s, bnd_s, ite_b2i, ite_b2i]
  simp only [L64, L32, decide_eq_true_eq]
  by_cases hy : 32 ≤ y0.toInt ∧ y0.toInt ≤ 126
  · rw [if_pos hy, if_pos hy]
    obtain ⟨v, hv1, hv, rfl⟩ := rngl (a := 32) (n := 126) hy
    have ef : fX6_isFull N (nI tl) = some (b2i (decide (110 ≤ tl))) := by
      unfold fX6_isFull
      by_cases q : 110 ≤ tl
      · refine (if_neg (fun z => by have := (nlt (b := 110) (by omega) (by omega)).mp z; omega)).trans ?_
        simp [q, b2i]
      · refine (if_pos (show nI tl < 110 from (nlt (b := 110) (by omega) (by omega)).mpr (by omega))).trans ?_
        simp [q, b2i]
    rw [t1, t2, ef, bnd_s, ite_b2i]
    simp only [decide_eq_true_eq]
    by_cases q : 110 ≤ tl
    · refine ⟨_, _, if_pos q, if_pos (show nI tl = 110 from (neq (b := 110) (by omega) (by omega)).mpr (by omega)), rfl, ?_⟩
      exact ⟨hRC, hI, ⟨tl, ht, rfl, rfl, t3⟩, hD, hZ⟩
    · have e3 : fX6_add N (nI tl) S.2.2.2.2.2.1.2.2.2 (nI v) = some (nI tl + 1, nI tl + 1, upd S.2.2.2.2.2.1.2.2.2 tl (nI v)) := by
        unfold fX6_add; rw [ixb_nI (by omega), chr_nar hv]
      rw [e3, ixb_nI (by omega)]
      refine ⟨_, _, (if_neg q).trans rfl, if_neg (show ¬ nI tl = 110 from fun z => by have := (neq (b := 110) (by omega) (by omega)).mp z; omega), rfl, hRC, hI, ⟨tl + 1, by omega, n_s1 tl, n_s1 tl, fun j hj => ?_⟩, hD, hZ⟩
      by_cases qj : j = tl
      · subst qj; exact ⟨v, hv1, hv, upd_s, upd_s⟩
      · obtain ⟨w, w1, w2, w3, w4⟩ := t3 j (by omega)
        exact ⟨w, w1, w2, (upd_n qj).trans w3, (upd_n qj).trans w4⟩
  · rw [if_neg hy, if_neg hy]
    exact ⟨_, _, rfl, rfl, rfl, hR⟩
