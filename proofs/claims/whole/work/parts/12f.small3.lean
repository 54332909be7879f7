theorem sim_ice (N : Nat) : Simice N Rel := by
  intro S M y0 hR
  obtain ⟨⟨c, m, k, h, hB, hC, hM⟩, hI, hT, hD, hZ⟩ := id hR
  have h12 := hB.1.1
  have e1 : S.1.1 = nI c.1 := hC.1.1
  unfold fX7_ice fX8_ice
  rw [e1, c_hasCell N _ (by omega), m_isCell N _ (by omega) hM.1.2.1, bnd_s, bnd_s, ite_b2i, ite_b2i]
  simp only [decide_eq_true_eq]
  by_cases hy : 0 ≤ y0.toInt ∧ y0.toInt < c.1
  · rw [if_pos hy, if_pos hy]
    obtain ⟨v, hv, rfl⟩ := rng hy
    rw [ixb_nI (by omega), show (3 : Int32) + nI v = nI (3 + v) from nI_add 3 v, ixb_nI (by omega)]
    refine ⟨_, _, rfl, rfl, ?_, hR⟩
    have a1 := hC.2.1.2.2.2.1 v hv
    have a2 := hM.2.1.2.2.2.1 v hv
    rw [Nat.zero_add] at a2
    rw [a1, a2]
  · rw [if_neg hy, if_neg hy]
    exact ⟨_, _, rfl, rfl, rfl, hR⟩
theorem rc_frost {C : BV_canal} {Y : BV_history} {row : Nat → Int32} {c : AC} {m : AM} {k : Nat} {h : Nat → AM} (hB : SNB c m k h) (hC : SNC c m k h C Y) (hM : SNM c m k h row) {v : Nat} (hv : v ≤ 9) :
    RC (C.1, C.2.1, C.2.2.1, nI v, C.2.2.2.2) Y (upd row 25 (nI v)) := by
  obtain ⟨hB1, hB2, hB3, hB4⟩ := hB
  obtain ⟨hC1, hC2, hC3⟩ := hC
  obtain ⟨hM1, hM2, hM3, hM4⟩ := hM
  have h12 := hB1.1
  have h6 := hB1.2.1
  have h5 := hB1.2.2.1
  have mo : ∀ (base : Nat) (m : AM), base + 25 ≤ 25 ∨ 26 ≤ base → MOM c.1 c.2.2.1 base m row → MOM c.1 c.2.2.1 base m (upd row 25 (nI v)) := by
    intro base m hb ⟨a1, a2, a3, a4, a5⟩
    exact ⟨(upd_n (by omega)).trans a1, (upd_n (by omega)).trans a2, (upd_n (by omega)).trans a3, fun j hj => (upd_n (by omega)).trans (a4 j hj), fun j hj => ⟨(upd_n (by omega)).trans (a5 j hj).1, (upd_n (by omega)).trans (a5 j hj).2⟩⟩
  exact ⟨(c.1, c.2.1, c.2.2.1, v, c.2.2.2.2), m, k, h, ⟨⟨hB1.1, hB1.2.1, hB1.2.2.1, hv, hB1.2.2.2.2⟩, hB2, hB3, hB4⟩, ⟨⟨hC1.1, hC1.2.1, hC1.2.2.1, rfl, hC1.2.2.2.2⟩, hC2, hC3⟩, ⟨⟨upd_s, (upd_n (by omega)).trans hM1.2.1, (upd_n (by omega)).trans hM1.2.2.1, (upd_n (by omega)).trans hM1.2.2.2.1, fun p hp => ⟨(upd_n (by omega)).trans (hM1.2.2.2.2 p hp).1, (upd_n (by omega)).trans (hM1.2.2.2.2 p hp).2⟩⟩, mo 0 m (by omega) hM2, (upd_n (by omega)).trans hM3, fun i hi => mo _ _ (by omega) (hM4 i hi)⟩⟩
theorem sim_frost (N : Nat) : Simfrost N Rel := by
  intro S M y0 hR
  obtain ⟨⟨c, m, k, h, hB, hC, hM⟩, hI, hT, hD, hZ⟩ := id hR
  have e1 : S.1.2.2.2.1 = nI c.2.2.2.1 := hC.1.2.2.2.1
  have e2 := hM.1.1
  unfold fX7_frost fX8_frost
  rw [c_within, m_in32, bnd_s, bnd_s, ite_b2i, ite_b2i]
  simp only [L64, L32, decide_eq_true_eq]
  by_cases hy : 0 ≤ y0.toInt ∧ y0.toInt ≤ 9
  · rw [if_pos hy, if_pos hy]
    obtain ⟨v, -, hv, rfl⟩ := rngl (a := 0) (n := 9) hy
    exact ⟨_, _, rfl, rfl, e1.trans e2.symm, rc_frost hB hC hM hv, hI.keep (fun j h1 h2 => upd_n (by omega)), hT, hD, hZ⟩
  · rw [if_neg hy, if_neg hy]
    exact ⟨_, _, rfl, rfl, rfl, hR⟩
theorem rc_seed {C : BV_canal} {Y : BV_history} {row : Nat → Int32} {c : AC} {m : AM} {k : Nat} {h : Nat → AM} (hB : SNB c m k h) (hC : SNC c m k h C Y) (hM : SNM c m k h row) {v : Nat} (hv : v < 2 ^ 31) :
    RC (C.1, C.2.1, C.2.2.1, C.2.2.2.1, C.2.2.2.2.1, C.2.2.2.2.2.1, C.2.2.2.2.2.2.1, C.2.2.2.2.2.2.2.1, nI v, C.2.2.2.2.2.2.2.2.2) Y (upd row 2 (nI v)) := by
  obtain ⟨hB1, hB2, hB3, hB4⟩ := hB
  obtain ⟨hC1, hC2, hC3⟩ := hC
  obtain ⟨hM1, hM2, hM3, hM4⟩ := hM
  have mo : ∀ (base : Nat) (m : AM), 3 ≤ base → MOM c.1 c.2.2.1 base m row → MOM c.1 c.2.2.1 base m (upd row 2 (nI v)) := by
    intro base m hb ⟨a1, a2, a3, a4, a5⟩
    exact ⟨(upd_n (by omega)).trans a1, (upd_n (by omega)).trans a2, (upd_n (by omega)).trans a3, fun j hj => (upd_n (by omega)).trans (a4 j hj), fun j hj => ⟨(upd_n (by omega)).trans (a5 j hj).1, (upd_n (by omega)).trans (a5 j hj).2⟩⟩
  exact ⟨c, (m.1, m.2.1, v, m.2.2.2), k, h, ⟨hB1, ⟨hB2.1, hB2.2.1, hv, hB2.2.2.2⟩, hB3, hB4⟩, ⟨hC1, ⟨hC2.1, hC2.2.1, rfl, hC2.2.2.2⟩, hC3⟩, ⟨⟨(upd_n (by omega)).trans hM1.1, (upd_n (by omega)).trans hM1.2.1, (upd_n (by omega)).trans hM1.2.2.1, (upd_n (by omega)).trans hM1.2.2.2.1, fun p hp => ⟨(upd_n (by omega)).trans (hM1.2.2.2.2 p hp).1, (upd_n (by omega)).trans (hM1.2.2.2.2 p hp).2⟩⟩, ⟨(upd_n (by omega)).trans hM2.1, (upd_n (by omega)).trans hM2.2.1, upd_s, fun j hj => (upd_n (by omega)).trans (hM2.2.2.2.1 j hj), fun j hj => ⟨(upd_n (by omega)).trans (hM2.2.2.2.2 j hj).1, (upd_n (by omega)).trans (hM2.2.2.2.2 j hj).2⟩⟩, (upd_n (by omega)).trans hM3, fun i hi => mo _ _ (by omega) (hM4 i hi)⟩⟩
theorem sim_seed (N : Nat) : Simseed N Rel := by
  intro S M y0 hR
  obtain ⟨⟨c, m, k, h, hB, hC, hM⟩, hI, hT, hD, hZ⟩ := id hR
  unfold fX7_seed fX8_seed
  by_cases hy : 0 ≤ y0
  · rw [if_pos hy, if_pos hy]
    have hy' : 0 ≤ y0.toInt := Int32.le_iff_toInt_le.mp hy
    have hlt := Int32.toInt_lt y0
    obtain ⟨v, -, hv, rfl⟩ := rngl (a := 0) (n := 2 ^ 31 - 1) (x := y0) ⟨hy', by omega⟩
    exact ⟨_, _, rfl, rfl, hC.2.1.2.2.1.trans hM.2.1.2.2.1.symm, rc_seed hB hC hM (by omega), hI.keep (fun j h1 h2 => upd_n (by omega)), hT, hD, hZ⟩
  · rw [if_neg hy, if_neg hy]
    exact ⟨_, _, rfl, rfl, rfl, hR⟩
/-! of -/
def ofs (g : Nat → Nat) (x : Int32) : Nat → Int32
  | 0 => 0
  | s + 1 => ofs g x s ||| (((nI (g s) >>> (x &&& 31)) &&& 1) <<< (nI s &&& 31))
theorem c_of_L (N : Nat) {ns : Nat} {g : Nat → Nat} {fors : Nat → Int32} {x : Int32} (h5 : ns ≤ 5) (hg : ∀ s, s < ns → fors s = nI (g s)) : ∀ (n s : Nat), s ≤ ns → ns - s < n → fX0_sayingsFor_L4 N x (nI ns) fors n (ofs g x s) (nI s) = some (ofs g x ns, nI ns) := by
  intro n
  induction n with
  | zero => intro s hs hn; omega
  | succ n ih =>
    intro s hs hn
    rw [fX0_sayingsFor_L4]
    by_cases he : s = ns
    · subst he; rw [if_pos ((nle (by omega) (by omega)).mpr (Nat.le_refl _))]
    · rw [if_neg (fun z => by have := (nle (by omega) (by omega)).mp z; omega), ixb_nI (by omega), hg s (by omega), n_s1]
      exact ih (s + 1) (by omega) (by omega)
theorem m_of_L (N : Nat) {ns : Nat} {g : Nat → Nat} {row : Nat → Int32} {x y : Int32} (h5 : ns ≤ 5) (e : row 28 = nI ns) (hg : ∀ s, s < ns → row (20 + s) = nI (g s)) : ∀ (n s : Nat), s ≤ ns → ns - s < n → fX8_of_L15 N x y row n (ofs g x s) (nI s) = some (ofs g x ns, nI ns) := by
  intro n
  induction n with
  | zero => intro s hs hn; omega
  | succ n ih =>
    intro s hs hn
    rw [fX8_of_L15, e]
    by_cases he : s = ns
    · subst he; rw [if_pos ((nle (by omega) (by omega)).mpr (Nat.le_refl _))]
    · rw [if_neg (fun z => by have := (nle (by omega) (by omega)).mp z; omega), show (20 : Int32) + nI s = nI (20 + s) from nI_add 20 s, ixb_nI (by omega), hg s (by omega), n_s1]
      exact ih (s + 1) (by omega) (by omega)
theorem z15 {ns : Nat} {g : Nat → Nat} {row : Nat → Int32} {b : Nat} (h : ∀ s, s < ns → row (0 + b + s) = nI (g s)) : ∀ s, s < ns → row (b + s) = nI (g s) := fun s hs => by have := h s hs; rwa [Nat.zero_add] at this
theorem sim_of (N : Nat) (hN : 1000 ≤ N) : Simof N Rel := by
  intro S M y0 y1 hR
  obtain ⟨⟨c, m, k, h, hB, hC, hM⟩, hI, hT, hD, hZ⟩ := id hR
  have h6 := hB.1.2.1
  have h5 := hB.1.2.2.1
  have e1 : S.1.2.1 = nI c.2.1 := hC.1.2.1
  have e2 : S.1.2.2.1 = nI c.2.2.1 := hC.1.2.2.1
  unfold fX7_of fX8_of
  rw [e1, e2, c_hasPerson N _ (by omega), m_isPerson N _ (by omega) hM.1.2.2.1, bnd_s, bnd_s, ite_b2i, ite_b2i]
  simp only [decide_eq_true_eq]
  by_cases hy : 0 ≤ y0.toInt ∧ y0.toInt < c.2.1
  · rw [if_pos hy, if_pos hy]
    obtain ⟨v, hv, rfl⟩ := rng hy
    have l1 := c_of_L N (x := nI v) h5 (g := m.2.2.2.2.2) (fun s hs => (hC.2.1.2.2.2.2 s hs).2) N 0 (by omega) (by omega)
    have l2 := m_of_L N (x := nI v) (y := y1) h5 hM.1.2.2.2.1 (g := m.2.2.2.2.2) (z15 (b := 20) (fun s hs => (hM.2.1.2.2.2.2 s hs).2)) N 0 (by omega) (by omega)
    have l1' : fX0_sayingsFor N (nI c.2.2.1) S.1.2.2.2.2.2.2.2.2.2.2.2 (nI v) = some (ofs m.2.2.2.2.2 (nI v) c.2.2.1) := by
      unfold fX0_sayingsFor
      exact bnd_eq l1
    rw [show fX8_of_L15 N (nI v) y1 M.2.2.2.2.2.2.2.2.2.1 N 0 0 = _ from l2, bnd_s, l1', bnd_s]
    have a1 := hC.1.2.2.2.2 v hv
    have a2 := hM.1.2.2.2.2 v hv
    rw [show (29 : Int32) + nI v = nI (29 + v) from nI_add 29 v, show (35 : Int32) + nI v = nI (35 + v) from nI_add 35 v]
    rw [ixb_nI (show v < 6 by omega), ixb_nI (show v < 6 by omega), ixb_nI (show 29 + v < 525 by omega), ixb_nI (show 35 + v < 525 by omega)]
    by_cases c0 : y1 = 0
    · rw [if_pos c0, if_pos c0]; exact ⟨_, _, rfl, rfl, by rw [a1.1, a2.1], hR⟩
    · rw [if_neg c0, if_neg c0]
      by_cases c1 : y1 = 1
      · rw [if_pos c1, if_pos c1]; exact ⟨_, _, rfl, rfl, by rw [a1.2, a2.2], hR⟩
      · rw [if_neg c1, if_neg c1]
        by_cases c2 : y1 = 2
        · rw [if_pos c2]; exact ⟨_, _, rfl, rfl, rfl, hR⟩
        · rw [if_neg c2]; exact ⟨_, _, rfl, rfl, rfl, hR⟩
  · rw [if_neg hy, if_neg hy]
    exact ⟨_, _, rfl, rfl, rfl, hR⟩
/-! at, rocks, rock -/
theorem all_and {np f : Nat} (h : f < 2 ^ np) : (2 ^ np - 1) &&& f = f := by
  rw [Nat.and_comm, Nat.and_two_pow_sub_one_eq_mod, Nat.mod_eq_of_lt h]
theorem sub_lt {np f : Nat} : (2 ^ np - 1) &&& f < 2 ^ np := by
  have : 0 < 2 ^ np := Nat.pos_of_ne_zero (by simp)
  exact Nat.lt_of_le_of_lt Nat.and_le_left (by omega)
theorem lt64 {np f : Nat} (hp : np ≤ 6) (h : f < 2 ^ np) : f < 64 := Nat.lt_of_lt_of_le h (pow6 hp)
theorem all64 {np : Nat} (hp : np ≤ 6) : 2 ^ np - 1 < 64 := by have := pow6 hp; have : 0 < 2 ^ np := Nat.pos_of_ne_zero (by simp); omega
theorem m_sideOf (N : Nat) {np ns s : Nat} {ju fo : Nat → Nat} {row : Nat → Int32} (hp : np ≤ 6) (e : row 27 = nI np) (S : TR 0 ns np ju fo row) (hs : s < ns) (b : Bool) : fX8_sideOf N row (nI s) (b2i b) = some (nI (if b then fo s else (2 ^ np - 1) &&& (63 ^^^ fo s))) := by
  have h5 := S.2.1
  have a := (S.2.2.2 s hs).2
  unfold fX8_sideOf
  have e1 : row (20 + s) = nI (fo s) := by have := a.1; rwa [Nat.zero_add] at this
  rw [ite_b2i, m_all N hp e, bnd_s, show (20 : Int32) + nI s = nI (20 + s) from nI_add 20 s, ixb_nI (by omega), ixb_nI (by omega), e1]
  cases b
  · rw [s_nand _ (all64 hp) _ (lt64 hp a.2.2)]; rfl
  · rfl
theorem sim_at (N : Nat) (hN : 1000 ≤ N) : Simat N Rel := by
  intro S M y0 y1 hR
  obtain ⟨⟨c, m, k, h, hB, hC, hM⟩, hI, hT, hD, hZ⟩ := id hR
  have h6 := hB.1.2.1
  have h5 := hB.1.2.2.1
  have hmm := hB.2.1.2.1
  have e1 : S.1.2.1 = nI c.2.1 := hC.1.2.1
  have e2 : S.1.2.2.1 = nI c.2.2.1 := hC.1.2.2.1
  have e3 : S.1.2.2.2.2.2.2.2.1 = nI m.2.1 := hC.2.1.2.1
  have P := PR.of hB.1 hC.1
  have Q := QR.of hB.1 hM.1
  have SS := SR.of hB.1 hB.2.1 hC.2.1
  have TT := TR.of hB.1 hB.2.1 hM.1 (by omega) hM.2.1
  have hm1 : M.2.2.2.2.2.2.2.2.2.1 (0 + 1) = nI m.2.1 := hM.2.1.2.1
  unfold fX7_at fX8_at
  rw [e1, e2, e3, c_hasSaying N _ (by omega), m_isSaying N _ (by omega) hM.1.2.2.2.1, bnd_s, bnd_s, ite_b2i, ite_b2i]
  simp only [decide_eq_true_eq]
  by_cases hy : 0 ≤ y0.toInt ∧ y0.toInt < c.2.2.1
  · rw [if_pos hy, if_pos hy]
    obtain ⟨v, hv, rfl⟩ := rng hy
    obtain ⟨s1, s2, s3, s4⟩ := SS.2.2 v hv
    obtain ⟨t1, t2, -, -⟩ := TT.2.2.2 v hv
    rw [Nat.zero_add] at t1 t2
    have f64 := lt64 h6 s4
    rw [ixb_nI (show v < 5 by omega), ixb_nI (show v < 5 by omega), show (15 : Int32) + nI v = nI (15 + v) from nI_add 15 v, show (20 : Int32) + nI v = nI (20 + v) from nI_add 20 v]
    simp only [ixb_nI (show 15 + v < 525 by omega), ixb_nI (show 20 + v < 525 by omega), s1, s2, t1, t2]
    by_cases c0 : y1 = 0
    · rw [if_pos c0, if_pos c0]; exact ⟨_, _, rfl, rfl, rfl, hR⟩
    · rw [if_neg c0, if_neg c0]
      by_cases c1 : y1 = 1
      · rw [if_pos c1, if_pos c1]; exact ⟨_, _, rfl, rfl, rfl, hR⟩
      · rw [if_neg c1, if_neg c1]
        by_cases c2 : y1 = 2
        · have q1 := m_sideOf N h6 hM.1.2.2.1 TT hv true
          rw [b2i_t] at q1
          have q2 := m_side N hN Q (base := 0) (by omega) hm1 (by omega) s4 s3
          rw [show (nI 0 : Int32) = 0 from rfl] at q2
          rw [if_pos c2, if_pos c2, if_pos c2, c_even N (by omega), bnd_s, c_side N hN P f64 s3, bnd_s, q1, bnd_s]
          refine ⟨_, _, rfl, bnd_eq q2, rfl, hR⟩
        · rw [if_neg c2, if_neg c2]
          by_cases c3 : y1 = 3
          · have q1 := m_sideOf N h6 hM.1.2.2.1 TT hv false
            rw [b2i_f] at q1
            have q2 := m_side N hN Q (base := 0) (by omega) hm1 (by omega) (sub_lt (np := c.2.1) (f := 63 ^^^ m.2.2.2.2.2 v)) s3
            rw [show (nI 0 : Int32) = 0 from rfl] at q2
            rw [if_pos c3, if_pos c3, if_neg c2, c_all N h6, bnd_s, c_even N (by omega), bnd_s, s_nand _ (all64 h6) _ f64, c_side N hN P (and_lt64 (all64 h6)) s3, bnd_s, q1, bnd_s]
            refine ⟨_, _, rfl, bnd_eq q2, rfl, hR⟩
          · rw [if_neg c3, if_neg c3]; exact ⟨_, _, rfl, rfl, rfl, hR⟩
  · rw [if_neg hy, if_neg hy]
    exact ⟨_, _, rfl, rfl, rfl, hR⟩
theorem sim_rock (N : Nat) (hN : 1000 ≤ N) : Simrock N Rel := by
  intro S M y0 hR
  obtain ⟨⟨c, m, k, h, hB, hC, hM⟩, hI, hT, hD, hZ⟩ := id hR
  have h6 := hB.1.2.1
  have h5 := hB.1.2.2.1
  have hmm := hB.2.1.2.1
  have e1 : S.1.2.1 = nI c.2.1 := hC.1.2.1
  have e2 : S.1.2.2.1 = nI c.2.2.1 := hC.1.2.2.1
  have e3 : S.1.2.2.2.2.2.2.2.1 = nI m.2.1 := hC.2.1.2.1
  have P := PR.of hB.1 hC.1
  have Q := QR.of hB.1 hM.1
  have SS := SR.of hB.1 hB.2.1 hC.2.1
  have TT := TR.of hB.1 hB.2.1 hM.1 (by omega) hM.2.1
  unfold fX7_rock fX8_rock
  rw [e1, e2, e3, c_hasSaying N _ (by omega), m_isSaying N _ (by omega) hM.1.2.2.2.1, bnd_s, bnd_s, ite_b2i, ite_b2i]
  simp only [decide_eq_true_eq]
  by_cases hy : 0 ≤ y0.toInt ∧ y0.toInt < c.2.2.1
  · rw [if_pos hy, if_pos hy]
    obtain ⟨v, hv, rfl⟩ := rng hy
    have q := m_rock N hN Q TT hM.2.1.2.1 (by omega) hv
    rw [show (nI 0 : Int32) = 0 from rfl] at q
    rw [c_rock N hN P SS (by omega) hv, bnd_s, q, bnd_s]
    exact ⟨_, _, rfl, rfl, rfl, hR⟩
  · rw [if_neg hy, if_neg hy]
    exact ⟨_, _, rfl, rfl, rfl, hR⟩
