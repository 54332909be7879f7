/-! PURE: kept, then changed -/
theorem snb_keep {c : AC} {m : AM} {k : Nat} {h : Nat → AM} (hB : SNB c m k h) : SNB c m (hpk k) (hph k h m) := by
  obtain ⟨b1, b2, b3, b4⟩ := hB
  refine ⟨b1, b2, ?_, fun i hi => ?_⟩
  · unfold hpk; split <;> omega
  · unfold hph
    by_cases hl : i + 1 = hpk k
    · rw [if_pos hl]; exact b2
    · rw [if_neg hl]
      by_cases q : k < 8
      · rw [if_pos q]; exact b4 i (by unfold hpk at hi hl; rw [if_pos q] at hi hl; omega)
      · rw [if_neg q]; exact b4 (i + 1) (by unfold hpk at hi hl; rw [if_neg q] at hi hl; omega)
theorem snm_keep {c : AC} {m : AM} {k : Nat} {h : Nat → AM} {row : Nat → Int32} (hB : SNB c m k h) (hM : SNM c m k h row) : SNM c m (hpk k) (hph k h m) (kpRow k row) := by
  obtain ⟨b1, b2, b3, b4⟩ := hB
  obtain ⟨m1, m2, m3, m4⟩ := hM
  have h12 := b1.1
  have h6 := b1.2.1
  have h5 := b1.2.2.1
  have e : ∀ j, j < 41 → kpRow k row j = row j := fun j hj => kp_out b3 (Or.inl hj)
  refine ⟨⟨(e _ (by omega)).trans m1.1, (e _ (by omega)).trans m1.2.1, (e _ (by omega)).trans m1.2.2.1, (e _ (by omega)).trans m1.2.2.2.1, fun p hp => ⟨(e _ (by omega)).trans (m1.2.2.2.2 p hp).1, (e _ (by omega)).trans (m1.2.2.2.2 p hp).2⟩⟩, ⟨(e _ (by omega)).trans m2.1, (e _ (by omega)).trans m2.2.1, (e _ (by omega)).trans m2.2.2.1, fun j hj => (e _ (by omega)).trans (m2.2.2.2.1 j hj), fun j hj => ⟨(e _ (by omega)).trans (m2.2.2.2.2 j hj).1, (e _ (by omega)).trans (m2.2.2.2.2 j hj).2⟩⟩, kp_41, mom_keep h12 h5 b3 m2 m4⟩
theorem mom_agree {nc ns base : Nat} {m : AM} {row row' : Nat → Int32} (hnc : nc ≤ 12) (hns : ns ≤ 5) (h : MOM nc ns base m row) (e : ∀ q, base ≤ q → q < base + 25 → row' q = row q) : MOM nc ns base m row' := by
  obtain ⟨a1, a2, a3, a4, a5⟩ := h
  exact ⟨(e _ (by omega) (by omega)).trans a1, (e _ (by omega) (by omega)).trans a2, (e _ (by omega) (by omega)).trans a3, fun j hj => (e _ (by omega) (by omega)).trans (a4 j hj), fun j hj => ⟨(e _ (by omega) (by omega)).trans (a5 j hj).1, (e _ (by omega) (by omega)).trans (a5 j hj).2⟩⟩
theorem mca_agree {nc np ns fr : Nat} {kd wt : Nat → Nat} {row row' : Nat → Int32} (h6 : np ≤ 6) (h : MCA nc np ns fr kd wt row) (e : ∀ q, 25 ≤ q → q < 41 → row' q = row q) : MCA nc np ns fr kd wt row' :=
  ⟨(e _ (by omega) (by omega)).trans h.1, (e _ (by omega) (by omega)).trans h.2.1, (e _ (by omega) (by omega)).trans h.2.2.1, (e _ (by omega) (by omega)).trans h.2.2.2.1, fun p hp => ⟨(e _ (by omega) (by omega)).trans (h.2.2.2.2 p hp).1, (e _ (by omega) (by omega)).trans (h.2.2.2.2 p hp).2⟩⟩
theorem snm_mom {c : AC} {m m' : AM} {k : Nat} {h : Nat → AM} {row row' : Nat → Int32} (hB : SNB c m k h) (hM : SNM c m k h row) (hO : MOM c.1 c.2.2.1 0 m' row') (e : ∀ q, 25 ≤ q → q < 242 → row' q = row q) : SNM c m' k h row' :=
  ⟨mca_agree hB.1.2.1 hM.1 (fun q h1 h2 => e q h1 (by omega)), hO, (e 41 (by omega) (by omega)).trans hM.2.2.1, fun i hi => mom_agree hB.1.1 hB.1.2.2.1 (hM.2.2.2 i hi) (fun q h1 h2 => e q (by omega) (by have := hB.2.2.1; omega))⟩
theorem upd_self {f : Nat → Int32} {k : Nat} {x : Int32} (h : f k = x) : upd f k x = f := by
  funext j
  by_cases q : j = k
  · subst q; rw [upd_s, h]
  · rw [upd_n q]
/-- a minute with its draw -/
def wD (m : AM) (d : Nat) : AM := (m.1, m.2.1, d, m.2.2.2)
theorem say_step (N : Nat) (hN : 1000 ≤ N) {c : AC} {m : AM} {k : Nat} {h : Nat → AM} {C : BV_canal} {Y : BV_history} {row : Nat → Int32} (hB : SNB c m k h) (hC : SNC c m k h C Y) (hM : SNM c m k h row) (hm : m.2.1 < 9999) (s : Nat) (hs : s < 2 ^ 31) (d : Nat) (hd : d < 2 ^ 31) :
    ∃ o3 o5 r5, fX2_keep N Y.1 Y.2.1 Y.2.2.1 Y.2.2.2.1 Y.2.2.2.2.1 Y.2.2.2.2.2.1 Y.2.2.2.2.2.2.1 Y.2.2.2.2.2.2.2 C.2.2.2.2.2.2.1 C.2.2.2.2.2.2.2.1 C.2.2.2.2.2.2.2.2.1 C.2.2.2.2.2.2.2.2.2.1 C.2.2.2.2.2.2.2.2.2.2.1 C.2.2.2.2.2.2.2.2.2.2.2 = some o3 ∧
    fX0_pass N C.1 C.2.1 C.2.2.1 C.2.2.2.1 C.2.2.2.2.1 C.2.2.2.2.2.1 C.2.2.2.2.2.2.1 C.2.2.2.2.2.2.2.1 C.2.2.2.2.2.2.2.2.2.1 C.2.2.2.2.2.2.2.2.2.2.1 C.2.2.2.2.2.2.2.2.2.2.2 (sI c.2.2.1 s) = some o5 ∧
    fX8_pass N (upd (kpRow k row) 2 (nI d)) 0 (sI c.2.2.1 s) = some r5 ∧
    SNB c (aPass c.1 c.2.1 c.2.2.1 c.2.2.2.1 c.2.2.2.2.1 c.2.2.2.2.2 (wD m d) s) (hpk k) (hph k h m) ∧
    SNC c (aPass c.1 c.2.1 c.2.2.1 c.2.2.2.1 c.2.2.2.2.1 c.2.2.2.2.2 (wD m d) s) (hpk k) (hph k h m) (C.1, C.2.1, C.2.2.1, C.2.2.2.1, C.2.2.2.2.1, C.2.2.2.2.2.1, o5.1, o5.2.1, nI d, o5.2.2.1, o5.2.2.2, C.2.2.2.2.2.2.2.2.2.2.2) o3 ∧
    SNM c (aPass c.1 c.2.1 c.2.2.1 c.2.2.2.1 c.2.2.2.2.1 c.2.2.2.2.2 (wD m d) s) (hpk k) (hph k h m) r5 ∧ ∀ q, 242 ≤ q → r5 q = row q := by
  have hB' := snb_keep hB
  have hM' := snm_keep hB hM
  obtain ⟨hC1, hC2, hC3⟩ := hC
  obtain ⟨o3, ho3, hH⟩ := c_keep N (m := m) hB.1.1 hB.1.2.2.1 hB.2.2.1 hC3 hC2
  have hbd : MBD c.1 c.2.1 c.2.2.1 9998 (wD m d) := ⟨hB.2.1.1, by show m.2.1 ≤ 9998; omega, hd, hB.2.1.2.2.2⟩
  obtain ⟨o5, ho5, hP⟩ := c_pass N hN (m := wD m d) (draw := nI d) hB.1 hbd (by omega) hC1 ⟨hC2.1, hC2.2.1, rfl, hC2.2.2.2⟩ s hs
  have hO2 : MOM c.1 c.2.2.1 0 (wD m d) (upd (kpRow k row) 2 (nI d)) := by
    obtain ⟨a1, a2, a3, a4, a5⟩ := hM'.2.1
    refine ⟨?_, ?_, upd_s, fun j hj => ?_, fun j hj => ⟨?_, ?_⟩⟩
    · rw [upd_n (by omega)]; exact a1
    · rw [upd_n (by omega)]; exact a2
    · rw [upd_n (by omega)]; exact a4 j hj
    · rw [upd_n (by omega)]; exact (a5 j hj).1
    · rw [upd_n (by omega)]; exact (a5 j hj).2
  have hC2' := mca_agree (row' := upd (kpRow k row) 2 (nI d)) hB.1.2.1 hM'.1 (fun q h1 h2 => upd_n (by omega))
  obtain ⟨r5, hr5, hr, hq⟩ := m_pass N hN (base := 0) hB.1 hbd (by omega) hC2' (by omega) (Or.inl rfl) hO2 s
  refine ⟨o3, o5, r5, ho3, ho5, hr5, ⟨hB.1, aPass_bd hbd, hB'.2.2⟩, ⟨hC1, hP, hH⟩, snm_mom hB' hM' hr (fun q h1 h2 => ?_), fun q h1 => ?_⟩
  · rw [hq q (by omega), upd_n (by omega)]
  · rw [hq q (by omega), upd_n (by omega), kp_out hB.2.2.1 (Or.inr h1)]
theorem sim_say (N : Nat) (hN : 1000 ≤ N) : Simsay N Rel := by
  intro S M y0 hR
  obtain ⟨⟨c, m, k, h, hB, hC, hM⟩, hI, hT, hD, hZ⟩ := id hR
  have e3 : S.1.2.2.1 = nI c.2.2.1 := hC.1.2.2.1
  have e28 := hM.1.2.2.2.1
  have em : S.1.2.2.2.2.2.2.2.1 = nI m.2.1 := hC.2.1.2.1
  have emm := hM.2.1.2.1
  have hmT := hB.2.1.2.1
  have h5 := hB.1.2.2.1
  have core : ∀ s, s < 2 ^ 31 → y0 = sI c.2.2.1 s → ∃ o o', (if S.1.2.2.2.2.2.2.2.1 < 9999 then
      bnd (fX2_keep N S.2.1.1 S.2.1.2.1 S.2.1.2.2.1 S.2.1.2.2.2.1 S.2.1.2.2.2.2.1 S.2.1.2.2.2.2.2.1 S.2.1.2.2.2.2.2.2.1 S.2.1.2.2.2.2.2.2.2 S.1.2.2.2.2.2.2.1 S.1.2.2.2.2.2.2.2.1 S.1.2.2.2.2.2.2.2.2.1 S.1.2.2.2.2.2.2.2.2.2.1 S.1.2.2.2.2.2.2.2.2.2.2.1 S.1.2.2.2.2.2.2.2.2.2.2.2) fun o3 =>
      bnd (fX0_pass N S.1.1 S.1.2.1 S.1.2.2.1 S.1.2.2.2.1 S.1.2.2.2.2.1 S.1.2.2.2.2.2.1 S.1.2.2.2.2.2.2.1 S.1.2.2.2.2.2.2.2.1 S.1.2.2.2.2.2.2.2.2.2.1 S.1.2.2.2.2.2.2.2.2.2.2.1 S.1.2.2.2.2.2.2.2.2.2.2.2 y0) fun o5 =>
      some (o5.1, o5.1, o5.2.1, o5.2.2.1, o5.2.2.2, o3.1, o3.2.1, o3.2.2.1, o3.2.2.2.1, o3.2.2.2.2.1, o3.2.2.2.2.2.1, o3.2.2.2.2.2.2.1, o3.2.2.2.2.2.2.2)
      else some ((-3), S.1.2.2.2.2.2.2.1, S.1.2.2.2.2.2.2.2.1, S.1.2.2.2.2.2.2.2.2.2.1, S.1.2.2.2.2.2.2.2.2.2.2.1, S.2.1.1, S.2.1.2.1, S.2.1.2.2.1, S.2.1.2.2.2.1, S.2.1.2.2.2.2.1, S.2.1.2.2.2.2.2.1, S.2.1.2.2.2.2.2.2.1, S.2.1.2.2.2.2.2.2.2)) = some o ∧
      (if (M.2.2.2.2.2.2.2.2.2.1 1) = 9999 then some ((-3), M.2.2.2.2.2.2.2.2.2.1) else bnd (fX8_keepPast N M.2.2.2.2.2.2.2.2.2.1) fun o3 => bnd (fX8_pass N o3 0 y0) fun o5 => some ((o5 0), o5)) = some o' ∧ o.1 = o'.1 ∧ Rel (bsX7_say S o) (msX8_say M o') := by
    intro s hs hy
    subst hy
    by_cases hm : m.2.1 < 9999
    · obtain ⟨o3, o5, r5, k1, k2, k3, k4, k5, k6, k7⟩ := say_step N hN hB hC hM hm s hs m.2.2.1 hB.2.1.2.2.1
      have eu : upd (kpRow k M.2.2.2.2.2.2.2.2.2.1) 2 (nI m.2.2.1) = kpRow k M.2.2.2.2.2.2.2.2.2.1 := upd_self ((kp_out hB.2.2.1 (Or.inl (by omega))).trans hM.2.1.2.2.1)
      rw [eu] at k3
      rw [m_keep N hN hB.2.2.1 hM.2.2.1, bnd_s, k3, bnd_s, k1, bnd_s, k2, bnd_s]
      refine ⟨_, _, if_pos (by rw [em]; exact (nlt (b := 9999) (by omega) (by omega)).mpr hm), if_neg (fun z => by have z' := emm.symm.trans z; have := (neq (b := 9999) (by omega) (by omega)).mp z'; omega), ?_, ⟨_, _, _, _, k4, ?_, k6⟩, hI.keep (fun j h1 h2 => k7 j h1), hT, hD, hZ⟩
      · exact k5.2.1.1.trans k6.2.1.1.symm
      · refine ⟨k5.1, ⟨k5.2.1.1, k5.2.1.2.1, hC.2.1.2.2.1, k5.2.1.2.2.2⟩, k5.2.2⟩
    · exact ⟨_, _, if_neg (by rw [em]; exact fun z => hm ((nlt (b := 9999) (by omega) (by omega)).mp z)), if_pos (emm.trans ((neq (b := 9999) (by omega) (by omega)).mpr (by omega))), rfl, hR⟩
  unfold fX7_say fX8_say
  by_cases hy : y0 = -4
  · rw [if_pos hy, if_pos hy]
    exact core c.2.2.1 (by omega) (by unfold sI; rw [if_neg (by omega)]; exact hy)
  · rw [if_neg hy, if_neg hy, m_isSaying N y0 (by omega) e28, bnd_s, ite_b2i, show fX0_hasSaying N S.1.2.2.1 y0 = some (b2i (decide (0 ≤ y0.toInt ∧ y0.toInt < c.2.2.1))) by rw [e3]; exact c_hasSaying N y0 (by omega), bnd_s, ite_b2i]
    simp only [decide_eq_true_eq]
    by_cases hs : 0 ≤ y0.toInt ∧ y0.toInt < c.2.2.1
    · rw [if_pos hs, if_pos hs]
      obtain ⟨s, hs1, hs2⟩ := rng hs
      exact core s (by omega) (by unfold sI; rw [if_pos hs1]; exact hs2)
    · rw [if_neg hs, if_neg hs]
      exact ⟨_, _, rfl, rfl, rfl, hR⟩
