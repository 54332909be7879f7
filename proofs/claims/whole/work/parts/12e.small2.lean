theorem rc_person {C : BV_canal} {Y : BV_history} {row : Nat → Int32} {c : AC} {m : AM} {k : Nat} {h : Nat → AM} (hB : SNB c m k h) (hC : SNC c m k h C Y) (hM : SNM c m k h row) {v w : Nat} (hc : c.2.1 < 6) (hv : v ≤ 4) (hw1 : 1 ≤ w) (hw : w ≤ 9) :
    RC (C.1, nI c.2.1 + 1, C.2.2.1, C.2.2.2.1, upd C.2.2.2.2.1 c.2.1 (nI v), upd C.2.2.2.2.2.1 c.2.1 (nI w), C.2.2.2.2.2.2) (Y.1, 0, Y.2.2) (upd (upd (upd (upd row (29 + c.2.1) (nI v)) (35 + c.2.1) (nI w)) 27 (nI (c.2.1 + 1))) 41 0) := by
  obtain ⟨hB1, hB2, hB3, hB4⟩ := hB
  obtain ⟨hC1, hC2, hC3, x, hx, hC4, hC5⟩ := hC
  obtain ⟨hM1, hM2, hM3, hM4⟩ := hM
  have h12 := hB1.1
  have h5 := hB1.2.2.1
  refine ⟨(c.1, c.2.1 + 1, c.2.2.1, c.2.2.2.1, (fun p => if p = c.2.1 then v else c.2.2.2.2.1 p), (fun p => if p = c.2.1 then w else c.2.2.2.2.2 p)), m, 0, h, ⟨⟨hB1.1, by show c.2.1 + 1 ≤ 6; omega, hB1.2.2.1, hB1.2.2.2.1, fun p hp => ?_⟩, ⟨hB2.1, hB2.2.1, hB2.2.2.1, hB2.2.2.2.1, fun j hj => ⟨(hB2.2.2.2.2 j hj).1, Nat.lt_of_lt_of_le (hB2.2.2.2.2 j hj).2 (Nat.pow_le_pow_right (by decide) (Nat.le_succ _))⟩⟩, by omega, fun i hi => absurd hi (Nat.not_lt_zero _)⟩, ⟨⟨hC1.1, n_s1 c.2.1, hC1.2.2.1, hC1.2.2.2.1, fun p hp => ?_⟩, hC2, rfl, x, hx, hC4, fun i hi => absurd hi (Nat.not_lt_zero _)⟩, ⟨⟨?_, ?_, ?_, ?_, fun p hp => ?_⟩, ⟨?_, ?_, ?_, fun j hj => ?_, fun j hj => ?_⟩, ?_, fun i hi => absurd hi (Nat.not_lt_zero _)⟩⟩
  · have hp' : p < c.2.1 + 1 := hp
    show (if p = c.2.1 then v else c.2.2.2.2.1 p) ≤ 4 ∧ 1 ≤ (if p = c.2.1 then w else c.2.2.2.2.2 p) ∧ (if p = c.2.1 then w else c.2.2.2.2.2 p) ≤ 9
    by_cases q : p = c.2.1
    · rw [if_pos q, if_pos q]; omega
    · rw [if_neg q, if_neg q]; exact hB1.2.2.2.2 p (by omega)
  · have hp' : p < c.2.1 + 1 := hp
    show upd C.2.2.2.2.1 c.2.1 (nI v) p = nI (if p = c.2.1 then v else c.2.2.2.2.1 p) ∧ upd C.2.2.2.2.2.1 c.2.1 (nI w) p = nI (if p = c.2.1 then w else c.2.2.2.2.2 p)
    by_cases q : p = c.2.1
    · rw [if_pos q, if_pos q, q, upd_s, upd_s]; exact ⟨rfl, rfl⟩
    · rw [if_neg q, if_neg q, upd_n q, upd_n q]; exact hC1.2.2.2.2 p (by omega)
  · rw [upd_n (by omega), upd_n (by omega), upd_n (by omega), upd_n (by omega)]; exact hM1.1
  · rw [upd_n (by omega), upd_n (by omega), upd_n (by omega), upd_n (by omega)]; exact hM1.2.1
  · rw [upd_n (by omega), upd_s]
  · rw [upd_n (by omega), upd_n (by omega), upd_n (by omega), upd_n (by omega)]; exact hM1.2.2.2.1
  · have hp' : p < c.2.1 + 1 := hp
    show _ = nI (if p = c.2.1 then v else c.2.2.2.2.1 p) ∧ _ = nI (if p = c.2.1 then w else c.2.2.2.2.2 p)
    by_cases q : p = c.2.1
    · rw [if_pos q, if_pos q, q, upd_n (by omega), upd_n (by omega), upd_n (by omega), upd_s, upd_n (by omega), upd_n (by omega), upd_s]; exact ⟨rfl, rfl⟩
    · rw [if_neg q, if_neg q, upd_n (by omega), upd_n (by omega), upd_n (by omega), upd_n (by omega), upd_n (by omega), upd_n (by omega), upd_n (by omega), upd_n (by omega)]; exact hM1.2.2.2.2 p (by omega)
  · rw [upd_n (by omega), upd_n (by omega), upd_n (by omega), upd_n (by omega)]; exact hM2.1
  · rw [upd_n (by omega), upd_n (by omega), upd_n (by omega), upd_n (by omega)]; exact hM2.2.1
  · rw [upd_n (by omega), upd_n (by omega), upd_n (by omega), upd_n (by omega)]; exact hM2.2.2.1
  · have hj' : j < 12 := Nat.lt_of_lt_of_le hj h12
    rw [upd_n (by omega), upd_n (by omega), upd_n (by omega), upd_n (by omega)]; exact hM2.2.2.2.1 j hj
  · have hj5 : j < 5 := Nat.lt_of_lt_of_le hj h5
    rw [upd_n (by omega), upd_n (by omega), upd_n (by omega), upd_n (by omega), upd_n (by omega), upd_n (by omega), upd_n (by omega), upd_n (by omega)]
    exact hM2.2.2.2.2 j hj
  · rw [upd_s]; rfl
theorem sim_person (N : Nat) : Simperson N Rel := by
  intro S M y0 y1 hR
  obtain ⟨⟨c, m, k, h, hB, hC, hM⟩, hI, hT, hD, hZ⟩ := id hR
  have h6 := hB.1.2.1
  have e1 : S.1.2.1 = nI c.2.1 := hC.1.2.1
  have e2 := hM.1.2.2.1
  unfold fX7_person fX8_person
  rw [c_within, m_in32, bnd_s, bnd_s, ite_b2i, ite_b2i]
  rw [c_within, m_in32, bnd_s, bnd_s, ite_b2i, ite_b2i]
  simp only [L64, L32, decide_eq_true_eq, e1, e2]
  by_cases hy : 0 ≤ y0.toInt ∧ y0.toInt ≤ 4
  · rw [if_pos hy, if_pos hy]
    obtain ⟨v, -, hv, rfl⟩ := rngl (a := 0) (n := 4) hy
    by_cases hw : 1 ≤ y1.toInt ∧ y1.toInt ≤ 9
    · rw [if_pos hw, if_pos hw]
      obtain ⟨w, hw1, hw2, rfl⟩ := rngl (a := 1) (n := 9) hw
      by_cases hc : c.2.1 < 6
      · have e3 : fX0_addPerson N (nI c.2.1) S.1.2.2.2.2.1 S.1.2.2.2.2.2.1 (nI v) (nI w) = some (nI c.2.1 + 1 - 1, nI c.2.1 + 1, upd S.1.2.2.2.2.1 c.2.1 (nI v), upd S.1.2.2.2.2.2.1 c.2.1 (nI w)) := by
          unfold fX0_addPerson; rw [ixb_nI (by omega), ixb_nI (by omega)]
        have e4 : fX8_addPerson N M.2.2.2.2.2.2.2.2.2.1 (nI v) (nI w) = some (upd (upd (upd (upd M.2.2.2.2.2.2.2.2.2.1 (29 + c.2.1) (nI v)) (35 + c.2.1) (nI w)) 27 (nI (c.2.1 + 1))) 41 0) := by
          unfold fX8_addPerson; rw [e2, show (29 : Int32) + nI c.2.1 = nI (29 + c.2.1) from nI_add 29 _, ixb_nI (by omega), upd_n (by omega), e2, show (35 : Int32) + nI c.2.1 = nI (35 + c.2.1) from nI_add 35 _, ixb_nI (by omega), upd_n (by omega), upd_n (by omega), e2, n_s1]
        rw [e3, e4, bnd_s]
        refine ⟨_, _, (if_pos (show nI c.2.1 < 6 from (nlt (b := 6) (by omega) (by omega)).mpr hc)).trans rfl, (if_neg (show ¬ nI c.2.1 = 6 from fun z => by have := (neq (b := 6) (by omega) (by omega)).mp z; omega)), ?_, rc_person hB hC hM hc hv hw1 hw2, hI.keep (fun j h1 h2 => ?_), hT, hD, hZ⟩
        · show nI c.2.1 + 1 - 1 = upd (upd _ 27 (nI (c.2.1 + 1))) 41 0 27 - 1
          rw [upd_n (by omega), upd_s, n_s1]
        · show upd (upd (upd (upd M.2.2.2.2.2.2.2.2.2.1 (29 + c.2.1) (nI v)) (35 + c.2.1) (nI w)) 27 (nI (c.2.1 + 1))) 41 0 j = _; rw [upd_n (by omega), upd_n (by omega), upd_n (by omega), upd_n (by omega)]
      · refine ⟨_, _, (if_neg (show ¬ nI c.2.1 < 6 from fun z => by have := (nlt (b := 6) (by omega) (by omega)).mp z; omega)), (if_pos (show nI c.2.1 = 6 from (neq (b := 6) (by omega) (by omega)).mpr (by omega))), rfl, ?_⟩
        rw [← e1]; exact hR
    · rw [if_neg hw, if_neg hw]
      refine ⟨_, _, rfl, rfl, rfl, ?_⟩
      rw [← e1]; exact hR
  · rw [if_neg hy, if_neg hy]
    refine ⟨_, _, rfl, rfl, rfl, ?_⟩
    rw [← e1]; exact hR
theorem rc_saying {C : BV_canal} {Y : BV_history} {row : Nat → Int32} {c : AC} {m : AM} {k : Nat} {h : Nat → AM} (hB : SNB c m k h) (hC : SNC c m k h C Y) (hM : SNM c m k h row) {v w : Nat} (hc : c.2.2.1 < 5) (hv : v ≤ 20) (hw : w < 2 ^ c.2.1) :
    RC (C.1, C.2.1, nI c.2.2.1 + 1, C.2.2.2.1, C.2.2.2.2.1, C.2.2.2.2.2.1, C.2.2.2.2.2.2.1, C.2.2.2.2.2.2.2.1, C.2.2.2.2.2.2.2.2.1, C.2.2.2.2.2.2.2.2.2.1, upd C.2.2.2.2.2.2.2.2.2.2.1 c.2.2.1 (nI v), upd C.2.2.2.2.2.2.2.2.2.2.2 c.2.2.1 (nI w)) (Y.1, 0, Y.2.2) (upd (upd (upd (upd row (15 + c.2.2.1) (nI v)) (20 + c.2.2.1) (nI w)) 28 (nI (c.2.2.1 + 1))) 41 0) := by
  obtain ⟨hB1, hB2, hB3, hB4⟩ := hB
  obtain ⟨hC1, hC2, hC3, x, hx, hC4, hC5⟩ := hC
  obtain ⟨hM1, hM2, hM3, hM4⟩ := hM
  have h12 := hB1.1
  have h6 := hB1.2.1
  refine ⟨(c.1, c.2.1, c.2.2.1 + 1, c.2.2.2), (m.1, m.2.1, m.2.2.1, m.2.2.2.1, (fun p => if p = c.2.2.1 then v else m.2.2.2.2.1 p), (fun p => if p = c.2.2.1 then w else m.2.2.2.2.2 p)), 0, h, ⟨⟨hB1.1, hB1.2.1, by show c.2.2.1 + 1 ≤ 5; omega, hB1.2.2.2⟩, ⟨hB2.1, hB2.2.1, hB2.2.2.1, hB2.2.2.2.1, fun p hp => ?_⟩, by omega, fun i hi => absurd hi (Nat.not_lt_zero _)⟩, ⟨⟨hC1.1, hC1.2.1, n_s1 c.2.2.1, hC1.2.2.2⟩, ⟨hC2.1, hC2.2.1, hC2.2.2.1, hC2.2.2.2.1, fun p hp => ?_⟩, rfl, x, hx, hC4, fun i hi => absurd hi (Nat.not_lt_zero _)⟩, ⟨⟨?_, ?_, ?_, ?_, fun p hp => ?_⟩, ⟨?_, ?_, ?_, fun j hj => ?_, fun p hp => ?_⟩, ?_, fun i hi => absurd hi (Nat.not_lt_zero _)⟩⟩
  · have hp' : p < c.2.2.1 + 1 := hp
    show (if p = c.2.2.1 then v else m.2.2.2.2.1 p) ≤ 20 ∧ (if p = c.2.2.1 then w else m.2.2.2.2.2 p) < 2 ^ c.2.1
    by_cases q : p = c.2.2.1
    · rw [if_pos q, if_pos q]; exact ⟨hv, hw⟩
    · rw [if_neg q, if_neg q]; exact hB2.2.2.2.2 p (by omega)
  · have hp' : p < c.2.2.1 + 1 := hp
    show upd C.2.2.2.2.2.2.2.2.2.2.1 c.2.2.1 (nI v) p = nI (if p = c.2.2.1 then v else m.2.2.2.2.1 p) ∧ upd C.2.2.2.2.2.2.2.2.2.2.2 c.2.2.1 (nI w) p = nI (if p = c.2.2.1 then w else m.2.2.2.2.2 p)
    by_cases q : p = c.2.2.1
    · rw [if_pos q, if_pos q, q, upd_s, upd_s]; exact ⟨rfl, rfl⟩
    · rw [if_neg q, if_neg q, upd_n q, upd_n q]; exact hC2.2.2.2.2 p (by omega)
  · rw [upd_n (by omega), upd_n (by omega), upd_n (by omega), upd_n (by omega)]; exact hM1.1
  · rw [upd_n (by omega), upd_n (by omega), upd_n (by omega), upd_n (by omega)]; exact hM1.2.1
  · rw [upd_n (by omega), upd_n (by omega), upd_n (by omega), upd_n (by omega)]; exact hM1.2.2.1
  · rw [upd_n (by omega), upd_s]
  · have hp' : p < 6 := Nat.lt_of_lt_of_le hp h6
    rw [upd_n (by omega), upd_n (by omega), upd_n (by omega), upd_n (by omega), upd_n (by omega), upd_n (by omega), upd_n (by omega), upd_n (by omega)]; exact hM1.2.2.2.2 p hp
  · rw [upd_n (by omega), upd_n (by omega), upd_n (by omega), upd_n (by omega)]; exact hM2.1
  · rw [upd_n (by omega), upd_n (by omega), upd_n (by omega), upd_n (by omega)]; exact hM2.2.1
  · rw [upd_n (by omega), upd_n (by omega), upd_n (by omega), upd_n (by omega)]; exact hM2.2.2.1
  · have hj' : j < 12 := Nat.lt_of_lt_of_le hj h12
    rw [upd_n (by omega), upd_n (by omega), upd_n (by omega), upd_n (by omega)]; exact hM2.2.2.2.1 j hj
  · have hp' : p < c.2.2.1 + 1 := hp
    show _ = nI (if p = c.2.2.1 then v else m.2.2.2.2.1 p) ∧ _ = nI (if p = c.2.2.1 then w else m.2.2.2.2.2 p)
    by_cases q : p = c.2.2.1
    · rw [if_pos q, if_pos q, q, upd_n (by omega), upd_n (by omega), upd_n (by omega), show 0 + 15 + c.2.2.1 = 15 + c.2.2.1 by omega, upd_s, upd_n (by omega), upd_n (by omega), show 0 + 20 + c.2.2.1 = 20 + c.2.2.1 by omega, upd_s]; exact ⟨rfl, rfl⟩
    · rw [if_neg q, if_neg q, upd_n (by omega), upd_n (by omega), upd_n (by omega), upd_n (by omega), upd_n (by omega), upd_n (by omega), upd_n (by omega), upd_n (by omega)]; exact hM2.2.2.2.2 p (by omega)
  · rw [upd_s]; rfl
theorem sim_saying (N : Nat) : Simsaying N Rel := by
  intro S M y0 y1 hR
  obtain ⟨⟨c, m, k, h, hB, hC, hM⟩, hI, hT, hD, hZ⟩ := id hR
  have h6 := hB.1.2.1
  have h5 := hB.1.2.2.1
  have hp64 := pow6 h6
  have hpos : 0 < 2 ^ c.2.1 := Nat.pos_of_ne_zero (by simp)
  have e0 : S.1.2.1 = nI c.2.1 := hC.1.2.1
  have e1 : S.1.2.2.1 = nI c.2.2.1 := hC.1.2.2.1
  have e2 := hM.1.2.2.2.1
  have e2' := hM.1.2.2.1
  unfold fX7_saying fX8_saying
  rw [c_within, m_in32, bnd_s, bnd_s, ite_b2i, ite_b2i]
  rw [e0, c_all N h6, m_all N h6 e2', bnd_s, bnd_s, c_within, m_in32, bnd_s, bnd_s, ite_b2i, ite_b2i, Int32.toInt_toInt64]
  simp only [L64, L32, decide_eq_true_eq, e1, e2, tI (2 ^ c.2.1 - 1)]
  by_cases hy : 0 ≤ y0.toInt ∧ y0.toInt ≤ 20
  · rw [if_pos hy, if_pos hy]
    obtain ⟨v, -, hv, rfl⟩ := rngl (a := 0) (n := 20) hy
    by_cases hw : 0 ≤ y1.toInt ∧ y1.toInt ≤ ((2 ^ c.2.1 - 1 : Nat) : Int)
    · rw [if_pos hw, if_pos hw]
      obtain ⟨w, -, hw2, rfl⟩ := rngl (a := 0) (n := 2 ^ c.2.1 - 1) hw
      by_cases hc : c.2.2.1 < 5
      · have e3 : fX0_addSaying N (nI c.2.2.1) S.1.2.2.2.2.2.2.2.2.2.2.1 S.1.2.2.2.2.2.2.2.2.2.2.2 (nI v) (nI w) = some (nI c.2.2.1 + 1 - 1, nI c.2.2.1 + 1, upd S.1.2.2.2.2.2.2.2.2.2.2.1 c.2.2.1 (nI v), upd S.1.2.2.2.2.2.2.2.2.2.2.2 c.2.2.1 (nI w)) := by
          unfold fX0_addSaying; rw [ixb_nI (by omega), ixb_nI (by omega)]
        have e4 : fX8_addSaying N M.2.2.2.2.2.2.2.2.2.1 (nI v) (nI w) = some (upd (upd (upd (upd M.2.2.2.2.2.2.2.2.2.1 (15 + c.2.2.1) (nI v)) (20 + c.2.2.1) (nI w)) 28 (nI (c.2.2.1 + 1))) 41 0) := by
          unfold fX8_addSaying; rw [e2, show (15 : Int32) + nI c.2.2.1 = nI (15 + c.2.2.1) from nI_add 15 _, ixb_nI (by omega), upd_n (by omega), e2, show (20 : Int32) + nI c.2.2.1 = nI (20 + c.2.2.1) from nI_add 20 _, ixb_nI (by omega), upd_n (by omega), upd_n (by omega), e2, n_s1]
        rw [e3, e4, bnd_s]
        refine ⟨_, _, (if_pos (show nI c.2.2.1 < 5 from (nlt (b := 5) (by omega) (by omega)).mpr hc)).trans rfl, (if_neg (show ¬ nI c.2.2.1 = 5 from fun z => by have := (neq (b := 5) (by omega) (by omega)).mp z; omega)), ?_, rc_saying hB hC hM hc hv (by omega), hI.keep (fun j h1 h2 => ?_), hT, hD, hZ⟩
        · show nI c.2.2.1 + 1 - 1 = upd (upd _ 28 (nI (c.2.2.1 + 1))) 41 0 28 - 1
          rw [upd_n (by omega), upd_s, n_s1]
        · show upd (upd (upd (upd M.2.2.2.2.2.2.2.2.2.1 (15 + c.2.2.1) (nI v)) (20 + c.2.2.1) (nI w)) 28 (nI (c.2.2.1 + 1))) 41 0 j = _; rw [upd_n (by omega), upd_n (by omega), upd_n (by omega), upd_n (by omega)]
      · refine ⟨_, _, (if_neg (show ¬ nI c.2.2.1 < 5 from fun z => by have := (nlt (b := 5) (by omega) (by omega)).mp z; omega)), (if_pos (show nI c.2.2.1 = 5 from (neq (b := 5) (by omega) (by omega)).mpr (by omega))), rfl, ?_⟩
        rw [← e1]; exact hR
    · rw [if_neg hw, if_neg hw]
      refine ⟨_, _, rfl, rfl, rfl, ?_⟩
      rw [← e1]; exact hR
  · rw [if_neg hy, if_neg hy]
    refine ⟨_, _, rfl, rfl, rfl, ?_⟩
    rw [← e1]; exact hR
