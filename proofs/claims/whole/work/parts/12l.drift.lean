/-! SIM drift -/
theorem draw_eq (x : Int32) : (((x.toInt64 * 1103515245) + 12345) &&& 2147483647).toInt32 = ((x * 1103515245) + 12345) &&& 2147483647 := by
  rw [Int64.toInt32_and, Int64.toInt32_add, Int64.toInt32_mul, Int32.toInt32_toInt64]
  rfl
theorem c_draw (N : Nat) {ns : Nat} (h5 : ns ≤ 5) (x : Int32) : ∃ d s : Nat, d < 2 ^ 31 ∧ s ≤ ns ∧ ((x * 1103515245) + 12345) &&& 2147483647 = nI d ∧ irem (nI d / 65536) (nI ns + 1) = nI s ∧ fX0_drawSaying N (nI ns) x = some (sI ns s, nI d) := by
  obtain ⟨d, hd, e⟩ := pk_andE ((x * 1103515245) + 12345) (m := 2147483647) 31 (by decide)
  have e1 : irem (nI d / 65536) (nI ns + 1) = nI (d / 65536 % (ns + 1)) := by
    rw [n_s1, show nI d / 65536 = nI (d / 65536) from n_div (d := 65536) hd (by omega) (by omega), n_irem (by omega) (by omega) (by omega)]
  have hlt : d / 65536 % (ns + 1) < ns + 1 := Nat.mod_lt _ (by omega)
  refine ⟨d, d / 65536 % (ns + 1), hd, by omega, e, e1, ?_⟩
  unfold fX0_drawSaying dvb
  rw [e, e1, if_neg (show ¬ nI ns + 1 = 0 from fun z => by rw [n_s1] at z; have := (neq (b := 0) (by omega) (by omega)).mp z; omega)]
  unfold sI
  by_cases q : d / 65536 % (ns + 1) < ns
  · rw [if_pos q, if_neg (fun z => by have := (nle (by omega) (by omega)).mp z; omega)]
  · rw [if_neg q, if_pos ((nle (by omega) (by omega)).mpr (by omega))]
theorem drift_L (N : Nat) (hN : 1000 ≤ N) {n1 : Nat} (hn1 : n1 ≤ 40) {c : AC} : ∀ (n x : Nat) (m : AM) (k : Nat) (h : Nat → AM) (C : BV_canal) (Y : BV_history) (row : Nat → Int32), x ≤ n1 → n1 - x < n → m.2.1 + (n1 - x) ≤ 9999 → SNB c m k h → SNC c m k h C Y → SNM c m k h row →
    ∃ o o' m' k' h', fX7_drift_L35 N (nI n1) C.1 C.2.1 C.2.2.1 C.2.2.2.1 C.2.2.2.2.1 C.2.2.2.2.2.1 C.2.2.2.2.2.2.2.2.2.2.2 n (nI x) C.2.2.2.2.2.2.1 C.2.2.2.2.2.2.2.1 C.2.2.2.2.2.2.2.2.1 C.2.2.2.2.2.2.2.2.2.1 C.2.2.2.2.2.2.2.2.2.2.1 Y.1 Y.2.1 Y.2.2.1 Y.2.2.2.1 Y.2.2.2.2.1 Y.2.2.2.2.2.1 Y.2.2.2.2.2.2.1 Y.2.2.2.2.2.2.2 = some o ∧ fX8_drift_L33 N (nI n1) n (nI x) row = some o' ∧
      SNB c m' k' h' ∧ SNC c m' k' h' (C.1, C.2.1, C.2.2.1, C.2.2.2.1, C.2.2.2.2.1, C.2.2.2.2.2.1, o.2.1, o.2.2.1, o.2.2.2.1, o.2.2.2.2.1, o.2.2.2.2.2.1, C.2.2.2.2.2.2.2.2.2.2.2) o.2.2.2.2.2.2 ∧ SNM c m' k' h' o'.2 ∧ ∀ q, 242 ≤ q → o'.2 q = row q := by
  intro n
  induction n with
  | zero => intro x m k h C Y row hx hn; omega
  | succ n ih =>
    intro x m k h C Y row hx hn hm hB hC hM
    rw [fX7_drift_L35, fX8_drift_L33]
    by_cases he : x = n1
    · subst he
      have q : nI x ≤ nI x := (nle (by omega) (by omega)).mpr (Nat.le_refl _)
      exact ⟨_, _, m, k, h, if_pos q, if_pos q, hB, hC, hM, fun _ _ => rfl⟩
    · have q : ¬ nI n1 ≤ nI x := fun z => by have := (nle (by omega) (by omega)).mp z; omega
      have h5 := hB.1.2.2.1
      have e3 : C.2.2.1 = nI c.2.2.1 := hC.1.2.2.1
      have e28 : kpRow k row 28 = nI c.2.2.1 := (kp_out hB.2.2.1 (Or.inl (by omega))).trans hM.1.2.2.2.1
      have ed : kpRow k row 2 = C.2.2.2.2.2.2.2.2.1 := (kp_out hB.2.2.1 (Or.inl (by omega))).trans (hM.2.1.2.2.1.trans hC.2.1.2.2.1.symm)
      obtain ⟨d, s, hd, hs, d1, d2, d3⟩ := c_draw N h5 C.2.2.2.2.2.2.2.2.1
      obtain ⟨o3, o5, r5, k1, k2, k3, k4, k5, k6, k7⟩ := say_step N hN hB hC hM (by omega) s (by omega) d hd
      obtain ⟨o, o', m', k', h', i1, i2, i3, i4, i5, i6⟩ := ih (x + 1) _ _ _ _ o3 r5 (by omega) (by omega) (by show (wD m d).2.1 + 1 + (n1 - (x + 1)) ≤ 9999; show m.2.1 + 1 + (n1 - (x + 1)) ≤ 9999; omega) k4 k5 k6
      refine ⟨o, o', m', k', h', ?_, ?_, i3, i4, i5, fun q hq => (i6 q hq).trans (k7 q hq)⟩
      · rw [if_neg q, k1, bnd_s, show fX0_drawSaying N C.2.2.1 C.2.2.2.2.2.2.2.2.1 = some (sI c.2.2.1 s, nI d) by rw [e3]; exact d3, bnd_s]
        rw [k2, bnd_s, n_s1]
        exact i1
      · rw [if_neg q, m_keep N hN hB.2.2.1 hM.2.2.1, bnd_s, ed, draw_eq, d1, upd_s, upd_n (by omega), e28, d2]
        unfold dvb
        rw [if_neg (show ¬ nI c.2.2.1 + 1 = 0 from fun z => by rw [n_s1] at z; have := (neq (b := 0) (by omega) (by omega)).mp z; omega)]
        by_cases hq : s < c.2.2.1
        · have es : sI c.2.2.1 s = nI s := by unfold sI; rw [if_pos hq]
          rw [if_neg (fun z => by have := (neq (by omega) (by omega)).mp z; omega), ← es, k3, bnd_s, n_s1]
          exact i2
        · have es : sI c.2.2.1 s = -4 := by unfold sI; rw [if_neg hq]
          rw [if_pos ((neq (by omega) (by omega)).mpr (by omega)), ← es, k3, bnd_s, n_s1]
          exact i2
theorem sim_drift (N : Nat) (hN : 1000 ≤ N) : Simdrift N Rel := by
  intro S M y0 hR
  obtain ⟨⟨c, m, k, h, hB, hC, hM⟩, hI, hT, hD, hZ⟩ := id hR
  have em : S.1.2.2.2.2.2.2.2.1 = nI m.2.1 := hC.2.1.2.1
  have emm := hM.2.1.2.1
  have hmT := hB.2.1.2.1
  unfold fX7_drift fX8_drift
  rw [c_within, m_in32, bnd_s, bnd_s, ite_b2i, ite_b2i]
  simp only [L64, L32, decide_eq_true_eq]
  by_cases hy : 1 ≤ y0.toInt ∧ y0.toInt ≤ 40
  · rw [if_pos hy, if_pos hy]
    obtain ⟨v, hv1, hv2, rfl⟩ := rngl (a := 1) (n := 40) hy
    by_cases hm : m.2.1 + v ≤ 9999
    · have q : nI m.2.1 + nI v ≤ 9999 := by rw [nI_add]; exact (nle (b := 9999) (by omega) (by omega)).mpr hm
      obtain ⟨o, o', m', k', h', i1, i2, i3, i4, i5, i6⟩ := drift_L N hN (n1 := v) (by omega) N 0 m k h S.1 S.2.1 M.2.2.2.2.2.2.2.2.2.1 (by omega) (by omega) (by omega) hB hC hM
      rw [show (nI 0 : Int32) = 0 from rfl] at i1 i2
      rw [i1, bnd_s, i2, bnd_s]
      exact ⟨_, _, if_pos (by rw [em]; exact q), if_pos (by rw [show M.2.2.2.2.2.2.2.2.2.1 1 = nI m.2.1 from emm]; exact q), i4.2.1.1.trans i5.2.1.1.symm, ⟨c, m', k', h', i3, i4, i5⟩, hI.keep (fun j h1 h2 => i6 j h1), hT, hD, hZ⟩
    · have q : ¬ nI m.2.1 + nI v ≤ 9999 := by rw [nI_add]; exact fun z => hm ((nle (b := 9999) (by omega) (by omega)).mp z)
      exact ⟨_, _, if_neg (by rw [em]; exact q), if_neg (by rw [show M.2.2.2.2.2.2.2.2.2.1 1 = nI m.2.1 from emm]; exact q), rfl, hR⟩
  · rw [if_neg hy, if_neg hy]; exact ⟨_, _, rfl, rfl, rfl, hR⟩
