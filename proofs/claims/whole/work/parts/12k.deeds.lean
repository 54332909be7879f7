/-! SIM thaw, mind, undo -/
theorem m_least (N : Nat) {a b : Nat} (ha : a < 2 ^ 30) (hb : b < 2 ^ 30) : fX8_least N (nI a - nI b) = some (nI (a - b)) := by
  unfold fX8_least
  by_cases q : b ≤ a
  · refine (if_pos (show 0 ≤ nI a - nI b by rw [Int32.le_iff_toInt_le, pk_sub_toInt (by omega) (by omega), show (0 : Int32).toInt = 0 from rfl]; omega)).trans ?_
    rw [n_sub q]
  · refine (if_neg (show ¬ 0 ≤ nI a - nI b from fun z => by rw [Int32.le_iff_toInt_le, pk_sub_toInt (by omega) (by omega), show (0 : Int32).toInt = 0 from rfl] at z; omega)).trans ?_
    rw [show a - b = 0 by omega]; rfl
theorem c_max0 {a b : Nat} (ha : a < 2 ^ 30) (hb : b < 2 ^ 30) : imax 0 (nI a - nI b) = nI (a - b) := by
  unfold imax
  by_cases q : b < a
  · refine (if_pos (show 0 < nI a - nI b by rw [Int32.lt_iff_toInt_lt, pk_sub_toInt (by omega) (by omega), show (0 : Int32).toInt = 0 from rfl]; omega)).trans ?_
    rw [n_sub (by omega)]
  · refine (if_neg (show ¬ 0 < nI a - nI b from fun z => by rw [Int32.lt_iff_toInt_lt, pk_sub_toInt (by omega) (by omega), show (0 : Int32).toInt = 0 from rfl] at z; omega)).trans ?_
    rw [show a - b = 0 by omega]; rfl
theorem sim_thaw (N : Nat) (hN : 1000 ≤ N) : Simthaw N Rel := by
  intro S M y0 y1 hR
  obtain ⟨⟨c, m, k, h, hB, hC, hM⟩, hI, hT, hD, hZ⟩ := id hR
  have e1 : S.1.1 = nI c.1 := hC.1.1
  have e26 := hM.1.2.1
  have h12 := hB.1.1
  unfold fX7_thaw fX8_thaw
  rw [c_within, m_in32, bnd_s, bnd_s, ite_b2i, ite_b2i, m_isCell N y0 (by omega) e26, bnd_s, ite_b2i, show fX0_hasCell N S.1.1 y0 = some (b2i (decide (0 ≤ y0.toInt ∧ y0.toInt < c.1))) by rw [e1]; exact c_hasCell N y0 (by omega), bnd_s, ite_b2i]
  simp only [L64, L32, decide_eq_true_eq]
  by_cases hy : 0 ≤ y0.toInt ∧ y0.toInt < c.1
  · rw [if_pos hy, if_pos hy]
    obtain ⟨x, hx, rfl⟩ := rng hy
    by_cases hn : 1 ≤ y1.toInt ∧ y1.toInt ≤ 60
    · rw [if_pos hn, if_pos hn]
      obtain ⟨v, hv1, hv2, rfl⟩ := rngl (a := 1) (n := 60) hn
      have ei : S.1.2.2.2.2.2.2.2.2.2.1 x = nI (m.2.2.2.1 x) := hC.2.1.2.2.2.1 x hx
      have er : M.2.2.2.2.2.2.2.2.2.1 (3 + x) = nI (m.2.2.2.1 x) := by have := hM.2.1.2.2.2.1 x hx; rwa [Nat.zero_add] at this
      have ek : kpRow k M.2.2.2.2.2.2.2.2.2.1 (3 + x) = nI (m.2.2.2.1 x) := (kp_out hB.2.2.1 (Or.inl (by omega))).trans er
      have h60 := hB.2.1.2.2.2.1 x hx
      rw [show (3 : Int32) + nI x = nI (3 + x) from nI_add 3 x]
      simp only [ixb_nI (show x < 12 by omega), ixb_nI (show 3 + x < 525 by omega), m_keep N hN hB.2.2.1 hM.2.2.1, bnd_s, ei, er, ek, m_least N (show m.2.2.2.1 x < 2 ^ 30 by omega) (show v < 2 ^ 30 by omega), c_max0 (show m.2.2.2.1 x < 2 ^ 30 by omega) (show v < 2 ^ 30 by omega), upd_s]
      by_cases h0 : m.2.2.2.1 x = 0
      · exact ⟨_, _, if_pos (by rw [h0]; rfl), if_pos (by rw [h0]; rfl), rfl, hR⟩
      · have hne : ¬ nI (m.2.2.2.1 x) = 0 := fun z => h0 ((neq (b := 0) (by omega) (by omega)).mp z)
        obtain ⟨o3, ho3, hH⟩ := c_keep N (m := m) hB.1.1 hB.1.2.2.1 hB.2.2.1 hC.2.2 hC.2.1
        rw [ho3, bnd_s]
        have hB' := snb_keep hB
        have hM' := snm_keep hB hM
        refine ⟨_, _, if_neg hne, if_neg hne, rfl, ⟨c, (m.1, m.2.1, m.2.2.1, (fun j => if j = x then m.2.2.2.1 x - v else m.2.2.2.1 j), m.2.2.2.2), _, _, ⟨hB'.1, ⟨hB'.2.1.1, hB'.2.1.2.1, hB'.2.1.2.2.1, fun j hj => ?_, hB'.2.1.2.2.2.2⟩, hB'.2.2⟩, ⟨hC.1, ⟨hC.2.1.1, hC.2.1.2.1, hC.2.1.2.2.1, fun j hj => ?_, hC.2.1.2.2.2.2⟩, hH⟩, snm_mom hB' hM' ⟨?_, ?_, ?_, fun j hj => ?_, fun j hj => ⟨?_, ?_⟩⟩ (fun q h1 h2 => ?_)⟩, hI.keep (fun j h1 h2 => ?_), hT, hD, hZ⟩
        · show (if j = x then m.2.2.2.1 x - v else m.2.2.2.1 j) ≤ 60
          split
          · omega
          · exact hB'.2.1.2.2.2.1 j hj
        · show upd S.1.2.2.2.2.2.2.2.2.2.1 x (nI (m.2.2.2.1 x - v)) j = nI (if j = x then m.2.2.2.1 x - v else m.2.2.2.1 j)
          by_cases q : j = x
          · subst q; rw [upd_s, if_pos rfl]
          · rw [upd_n q, if_neg q]; exact hC.2.1.2.2.2.1 j hj
        · show upd _ (3 + x) _ 0 = _; rw [upd_n (by omega)]; exact hM'.2.1.1
        · show upd _ (3 + x) _ (0 + 1) = _; rw [upd_n (by omega)]; exact hM'.2.1.2.1
        · show upd _ (3 + x) _ (0 + 2) = _; rw [upd_n (by omega)]; exact hM'.2.1.2.2.1
        · show upd _ (3 + x) _ (0 + 3 + j) = nI (if j = x then m.2.2.2.1 x - v else m.2.2.2.1 j)
          by_cases q : j = x
          · subst q; rw [Nat.zero_add, upd_s, if_pos rfl]
          · rw [upd_n (by omega), if_neg q]; exact hM'.2.1.2.2.2.1 j hj
        · show upd _ (3 + x) _ (0 + 15 + j) = _; rw [upd_n (by omega)]; exact (hM'.2.1.2.2.2.2 j hj).1
        · show upd _ (3 + x) _ (0 + 20 + j) = _; rw [upd_n (by omega)]; exact (hM'.2.1.2.2.2.2 j hj).2
        · show upd _ (3 + x) _ q = _; rw [upd_n (by omega)]
        · show upd _ (3 + x) _ j = _; rw [upd_n (by omega)]; exact kp_out hB.2.2.1 (Or.inr h1)
    · rw [if_neg hn, if_neg hn]; exact ⟨_, _, rfl, rfl, rfl, hR⟩
  · rw [if_neg hy, if_neg hy]; exact ⟨_, _, rfl, rfl, rfl, hR⟩
theorem xor_pow {np a b : Nat} (ha : a < 2 ^ np) (hb : b < 2 ^ np) : a ^^^ b < 2 ^ np := Nat.xor_lt_two_pow ha hb
theorem sim_mind (N : Nat) (hN : 1000 ≤ N) : Simmind N Rel := by
  intro S M y0 y1 hR
  obtain ⟨⟨c, m, k, h, hB, hC, hM⟩, hI, hT, hD, hZ⟩ := id hR
  have e2 : S.1.2.1 = nI c.2.1 := hC.1.2.1
  have e3 : S.1.2.2.1 = nI c.2.2.1 := hC.1.2.2.1
  have e27 := hM.1.2.2.1
  have e28 := hM.1.2.2.2.1
  have h6 := hB.1.2.1
  have h5 := hB.1.2.2.1
  unfold fX7_mind fX8_mind
  rw [m_isPerson N y0 (by omega) e27, bnd_s, ite_b2i, show fX0_hasPerson N S.1.2.1 y0 = some (b2i (decide (0 ≤ y0.toInt ∧ y0.toInt < c.2.1))) by rw [e2]; exact c_hasPerson N y0 (by omega), bnd_s, ite_b2i, m_isSaying N y1 (by omega) e28, bnd_s, ite_b2i, show fX0_hasSaying N S.1.2.2.1 y1 = some (b2i (decide (0 ≤ y1.toInt ∧ y1.toInt < c.2.2.1))) by rw [e3]; exact c_hasSaying N y1 (by omega), bnd_s, ite_b2i]
  simp only [decide_eq_true_eq]
  by_cases hy : 0 ≤ y0.toInt ∧ y0.toInt < c.2.1
  · rw [if_pos hy, if_pos hy]
    obtain ⟨p, hp, rfl⟩ := rng hy
    by_cases hn : 0 ≤ y1.toInt ∧ y1.toInt < c.2.2.1
    · rw [if_pos hn, if_pos hn]
      obtain ⟨s, hs, rfl⟩ := rng hn
      have ei : S.1.2.2.2.2.2.2.2.2.2.2.2 s = nI (m.2.2.2.2.2 s) := (hC.2.1.2.2.2.2 s hs).2
      have er : M.2.2.2.2.2.2.2.2.2.1 (20 + s) = nI (m.2.2.2.2.2 s) := by have := (hM.2.1.2.2.2.2 s hs).2; rwa [Nat.zero_add] at this
      have ek : kpRow k M.2.2.2.2.2.2.2.2.2.1 (20 + s) = nI (m.2.2.2.2.2 s) := (kp_out hB.2.2.1 (Or.inl (by omega))).trans er
      have hf := (hB.2.1.2.2.2.2 s hs).2
      have h64 : m.2.2.2.2.2 s < 64 := Nat.lt_of_lt_of_le hf (pow6 h6)
      have hpp : 2 ^ p < 2 ^ c.2.1 := Nat.pow_lt_pow_right (by decide) hp
      have hpp64 : 2 ^ p < 64 := Nat.lt_of_lt_of_le hpp (pow6 h6)
      rw [show (20 : Int32) + nI s = nI (20 + s) from nI_add 20 s]
      simp only [ixb_nI (show s < 5 by omega), ixb_nI (show 20 + s < 525 by omega), m_keep N hN hB.2.2.1 hM.2.2.1, bnd_s, ei, er, ek, s_one p (by omega), s_xor _ h64 _ hpp64, upd_s]
      obtain ⟨o3, ho3, hH⟩ := c_keep N (m := m) hB.1.1 hB.1.2.2.1 hB.2.2.1 hC.2.2 hC.2.1
      rw [ho3, bnd_s]
      have hB' := snb_keep hB
      have hM' := snm_keep hB hM
      refine ⟨_, _, rfl, rfl, rfl, ⟨c, (m.1, m.2.1, m.2.2.1, m.2.2.2.1, m.2.2.2.2.1, (fun j => if j = s then m.2.2.2.2.2 s ^^^ 2 ^ p else m.2.2.2.2.2 j)), _, _, ⟨hB'.1, ⟨hB'.2.1.1, hB'.2.1.2.1, hB'.2.1.2.2.1, hB'.2.1.2.2.2.1, fun j hj => ⟨(hB'.2.1.2.2.2.2 j hj).1, ?_⟩⟩, hB'.2.2⟩, ⟨hC.1, ⟨hC.2.1.1, hC.2.1.2.1, hC.2.1.2.2.1, hC.2.1.2.2.2.1, fun j hj => ⟨(hC.2.1.2.2.2.2 j hj).1, ?_⟩⟩, hH⟩, snm_mom hB' hM' ⟨?_, ?_, ?_, fun j hj => ?_, fun j hj => ⟨?_, ?_⟩⟩ (fun q h1 h2 => ?_)⟩, hI.keep (fun j h1 h2 => ?_), hT, hD, hZ⟩
      · show (if j = s then m.2.2.2.2.2 s ^^^ 2 ^ p else m.2.2.2.2.2 j) < 2 ^ c.2.1
        split
        · exact xor_pow hf hpp
        · exact (hB'.2.1.2.2.2.2 j hj).2
      · show upd S.1.2.2.2.2.2.2.2.2.2.2.2 s _ j = nI (if j = s then m.2.2.2.2.2 s ^^^ 2 ^ p else m.2.2.2.2.2 j)
        by_cases q : j = s
        · subst q; rw [upd_s, if_pos rfl]
        · rw [upd_n q, if_neg q]; exact (hC.2.1.2.2.2.2 j hj).2
      · show upd _ (20 + s) _ 0 = _; rw [upd_n (by omega)]; exact hM'.2.1.1
      · show upd _ (20 + s) _ (0 + 1) = _; rw [upd_n (by omega)]; exact hM'.2.1.2.1
      · show upd _ (20 + s) _ (0 + 2) = _; rw [upd_n (by omega)]; exact hM'.2.1.2.2.1
      · have : j < 12 := Nat.lt_of_lt_of_le hj hB.1.1
        show upd _ (20 + s) _ (0 + 3 + j) = _; rw [upd_n (by omega)]; exact hM'.2.1.2.2.2.1 j hj
      · show upd _ (20 + s) _ (0 + 15 + j) = _; rw [upd_n (by omega)]; exact (hM'.2.1.2.2.2.2 j hj).1
      · show upd _ (20 + s) _ (0 + 20 + j) = nI (if j = s then m.2.2.2.2.2 s ^^^ 2 ^ p else m.2.2.2.2.2 j)
        by_cases q : j = s
        · subst q; rw [Nat.zero_add, upd_s, if_pos rfl]
        · rw [upd_n (by omega), if_neg q]; exact (hM'.2.1.2.2.2.2 j hj).2
      · show upd _ (20 + s) _ q = _; rw [upd_n (by omega)]
      · show upd _ (20 + s) _ j = _; rw [upd_n (by omega)]; exact kp_out hB.2.2.1 (Or.inr h1)
    · rw [if_neg hn, if_neg hn]; exact ⟨_, _, rfl, rfl, rfl, hR⟩
  · rw [if_neg hy, if_neg hy]; exact ⟨_, _, rfl, rfl, rfl, hR⟩
theorem m_un_L (N : Nat) {row : Nat → Int32} {u : Nat} (hu : u < 8) (e : row 41 = nI u) : ∀ (n x : Nat), x ≤ 25 → 25 - x < n → fX8_undo_L26 N n (nI x) (va_cpy row row (42 + 25 * u) 0 x) = some (nI 25, va_cpy row row (42 + 25 * u) 0 25) := by
  intro n
  induction n with
  | zero => intro x hx hn; omega
  | succ n ih =>
    intro x hx hn
    rw [fX8_undo_L26]
    by_cases he : x = 25
    · subst he; exact (if_pos (show (25 : Int32) ≤ nI 25 by decide)).trans rfl
    · refine (if_neg (fun z => by have := (nle (a := 25) (by omega) (by omega)).mp z; omega)).trans ?_
      have e2 : va_cpy row row (42 + 25 * u) 0 x 41 = nI u := (pk_cpy_out (by omega)).trans e
      rw [e2, show (25 : Int32) * nI u = nI (25 * u) from n_mul 25 u, show (42 : Int32) + nI (25 * u) = nI (42 + 25 * u) from nI_add 42 _, nI_add, ixb_nI (by omega), ixb_nI (by omega), n_s1]
      have := cpy_upd (row := row) (sp := 42 + 25 * u) (dp := 0) (x := x) (by omega)
      rw [Nat.zero_add] at this
      rw [this]
      exact ih (x + 1) (by omega) (by omega)
theorem sim_undo (N : Nat) (hN : 1000 ≤ N) : Simundo N Rel := by
  intro S M hR
  obtain ⟨⟨c, m, k, h, hB, hC, hM⟩, hI, hT, hD, hZ⟩ := id hR
  obtain ⟨hC1, hC2, hk, x, hx, hxe, hH⟩ := id hC
  have hk8 := hB.2.2.1
  have h12 := hB.1.1
  have h5 := hB.1.2.2.1
  have e41 := hM.2.2.1
  unfold fX7_undo fX8_undo
  rw [e41]
  by_cases h0 : k = 0
  · exact ⟨_, _, if_pos (hk.trans (by rw [h0]; rfl)), if_pos (by rw [h0]; rfl), rfl, hR⟩
  · obtain ⟨u, rfl⟩ : ∃ u, k = u + 1 := ⟨k - 1, by omega⟩
    have hne : ¬ nI (u + 1) = 0 := fun z => by have := (neq (b := 0) (by omega) (by omega)).mp z; omega
    have l := m_un_L N (row := upd M.2.2.2.2.2.2.2.2.2.1 41 (nI u)) (u := u) (by omega) upd_s N 0 (by omega) (by omega)
    rw [cpy0, show (nI 0 : Int32) = 0 from rfl] at l
    have en : irem ((nI x + 8) - 1) 8 = nI ((x + 7) % 8) := by
      have : nI x + 8 - 1 = nI (x + 7) := by rw [show nI x + 8 = nI (x + 7 + 1) from nI_add x 8, n_p1]
      rw [this]; exact n_irem (d := 8) (by omega) (by omega) (by omega)
    have ei : hix x (u + 1) u = (x + 7) % 8 := by unfold hix; omega
    have hl := hH u (by omega)
    rw [ei] at hl
    rw [n_p1, l, bnd_s]
    unfold fX2_bringBack fX3_take
    rw [show S.2.1.1 = nI x from hxe, en, ixb_nI (by omega), bnd_s, bnd_s, show S.2.1.2.1 = nI (u + 1) from hk, n_p1]
    have hrow : ∀ q, 25 ≤ q → va_cpy (upd M.2.2.2.2.2.2.2.2.2.1 41 (nI u)) (upd M.2.2.2.2.2.2.2.2.2.1 41 (nI u)) (42 + 25 * u) 0 25 q = upd M.2.2.2.2.2.2.2.2.2.1 41 (nI u) q := fun q hq => pk_cpy_out (by omega)
    have hrin : ∀ q, q < 25 → va_cpy (upd M.2.2.2.2.2.2.2.2.2.1 41 (nI u)) (upd M.2.2.2.2.2.2.2.2.2.1 41 (nI u)) (42 + 25 * u) 0 25 q = M.2.2.2.2.2.2.2.2.2.1 (42 + 25 * u + q) := fun q hq => by rw [pk_cpy_in (by omega) (by omega), upd_n (by omega)]; rfl
    have hmu := hM.2.2.2 u (by omega)
    refine ⟨_, _, if_neg hne, if_neg hne, ?_, ⟨c, h u, u, h, ⟨hB.1, hB.2.2.2 u (by omega), by omega, fun i hi => hB.2.2.2 i (by omega)⟩, ⟨hC1, ⟨hl.1, hl.2.1, hl.2.2.1, fun j hj => ?_, fun j hj => ⟨?_, ?_⟩⟩, rfl, (x + 7) % 8, by omega, rfl, fun i hi => ?_⟩, ?_⟩, hI.keep (fun j h1 h2 => ?_), hT, hD, hZ⟩
    · exact ((hrow 41 (by omega)).trans upd_s).symm
    · show va_cpy _ _ 0 0 12 j = _; rw [sb_cpy0 (by omega)]; exact hl.2.2.2.1 j hj
    · show va_cpy _ _ 0 0 5 j = _; rw [sb_cpy0 (by omega)]; exact (hl.2.2.2.2 j hj).1
    · show va_cpy _ _ 0 0 5 j = _; rw [sb_cpy0 (by omega)]; exact (hl.2.2.2.2 j hj).2
    · have e : hix ((x + 7) % 8) u i = hix x (u + 1) i := by unfold hix; omega
      rw [e]; exact hH i (by omega)
    · refine ⟨mca_agree hB.1.2.1 hM.1 (fun q h1 h2 => ?_), ⟨?_, ?_, ?_, fun j hj => ?_, fun j hj => ⟨?_, ?_⟩⟩, ?_, fun i hi => mom_agree h12 h5 (hM.2.2.2 i (by omega)) (fun q h1 h2 => ?_)⟩
      · show va_cpy _ _ (42 + 25 * u) 0 25 q = _; rw [hrow q h1, upd_n (by omega)]
      · exact (hrin 0 (by omega)).trans hmu.1
      · exact (hrin 1 (by omega)).trans hmu.2.1
      · exact (hrin 2 (by omega)).trans hmu.2.2.1
      · show va_cpy _ _ (42 + 25 * u) 0 25 (0 + 3 + j) = _; rw [hrin _ (by omega), ← hmu.2.2.2.1 j hj]; exact congrArg M.2.2.2.2.2.2.2.2.2.1 (by omega)
      · show va_cpy _ _ (42 + 25 * u) 0 25 (0 + 15 + j) = _; rw [hrin _ (by omega), ← (hmu.2.2.2.2 j hj).1]; exact congrArg M.2.2.2.2.2.2.2.2.2.1 (by omega)
      · show va_cpy _ _ (42 + 25 * u) 0 25 (0 + 20 + j) = _; rw [hrin _ (by omega), ← (hmu.2.2.2.2 j hj).2]; exact congrArg M.2.2.2.2.2.2.2.2.2.1 (by omega)
      · exact (hrow 41 (by omega)).trans upd_s
      · show va_cpy _ _ (42 + 25 * u) 0 25 q = _; rw [hrow _ (by omega), upd_n (by omega)]
    · show va_cpy _ _ (42 + 25 * u) 0 25 j = _; rw [hrow _ (by omega), upd_n (by omega)]
