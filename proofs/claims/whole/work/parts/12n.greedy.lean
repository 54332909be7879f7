/-! SIM greedy, through -/
theorem greedy_L (N : Nat) (hN : 1000 ≤ N) {c : AC} {C : BV_canal} {row : Nat → Int32} (hB : CAB' c) (hC : CCA' c C) (hM : MCA' c row) {n1 : Nat} (hn1 : n1 ≤ 99) {x2 : Int32} {draw : Int32} {fors : Nat → Int32} : ∀ (n x T : Nat) (m : AM) (boat minute : Int32) (ice juice row' : Nat → Int32), x ≤ n1 → n1 - x < n → T + (n1 - x) ≤ 20000 → MBD c.1 c.2.1 c.2.2.1 T m → CMO c.1 c.2.2.1 m boat minute draw ice juice fors → MOM c.1 c.2.2.1 484 m row' → (∀ q, q < 484 → row' q = row q) →
    ∃ o o' m' T', fX1_greedyFor_L13 N (nI n1) fors C.1 C.2.1 C.2.2.1 C.2.2.2.1 C.2.2.2.2.1 C.2.2.2.2.2.1 n (nI x) boat minute ice juice = some o ∧ fX8_greedy_L30 N (nI n1) x2 n (nI x) row' = some o' ∧ MBD c.1 c.2.1 c.2.2.1 T' m' ∧ CMO c.1 c.2.2.1 m' o.2.1 o.2.2.1 draw o.2.2.2.1 o.2.2.2.2 fors ∧ MOM c.1 c.2.2.1 484 m' o'.2 ∧ ∀ q, q < 484 → o'.2 q = row q := by
  intro n
  induction n with
  | zero => intro x T m boat minute ice juice row' hx hn; omega
  | succ n ih =>
    intro x T m boat minute ice juice row' hx hn hT hb hO hO' e
    rw [fX1_greedyFor_L13, fX8_greedy_L30]
    by_cases he : x = n1
    · subst he
      have q : nI x ≤ nI x := (nle (by omega) (by omega)).mpr (Nat.le_refl _)
      exact ⟨_, _, m, T, if_pos q, if_pos q, hb, hO, hO', e⟩
    · have q : ¬ nI n1 ≤ nI x := fun z => by have := (nle (by omega) (by omega)).mp z; omega
      obtain ⟨y, o, r, f1, f2, f3, f4, f5, f6, f7, f8⟩ := fore_step N hN hB hC hM hb (by omega) hO hO' e
      rw [if_neg q, if_neg q, f1, bnd_s, f2, bnd_s, f3, bnd_s, f4, bnd_s, n_s1]
      exact ih (x + 1) (T + 1) _ _ _ _ _ _ (by omega) (by omega) (by omega) f5 f6 f7 f8
theorem sim_greedy (N : Nat) (hN : 1000 ≤ N) : Simgreedy N Rel := by
  intro S M y0 y1 hR
  obtain ⟨⟨c, m, k, h, hB, hC, hM⟩, hI, hT, hD, hZ⟩ := id hR
  have h12 := hB.1.1
  have h5 := hB.1.2.2.1
  unfold fX7_greedy fX8_greedy
  rw [c_within, m_in32, bnd_s, bnd_s, ite_b2i, ite_b2i, c_within, m_in32, bnd_s, bnd_s, ite_b2i, ite_b2i, m_lay N hN, bnd_s]
  simp only [L64, L32, decide_eq_true_eq]
  by_cases hy : 0 ≤ y0.toInt ∧ y0.toInt ≤ 99
  · rw [if_pos hy, if_pos hy]
    obtain ⟨v, -, hv, rfl⟩ := rngl (a := 0) (n := 99) hy
    by_cases hw : 0 ≤ y1.toInt ∧ y1.toInt ≤ 1
    · rw [if_pos hw, if_pos hw]
      obtain ⟨o, o', m', T', g1, g2, g3, g4, g5, g6⟩ := greedy_L N hN (C := S.1) (row := M.2.2.2.2.2.2.2.2.2.1) hB.1 hC.1 hM.1 (n1 := v) hv (x2 := y1) N 0 9999 m _ _ _ _ _ (by omega) (by omega) (by omega) hB.2.1 (cmo_take h12 h5 hC.2.1 (i2 := S.2.2.2.2.2.2.2.1.2.2.2.1) (j2 := S.2.2.2.2.2.2.2.1.2.2.2.2.1) (f2 := S.2.2.2.2.2.2.2.1.2.2.2.2.2.1)) (lay_mom h12 h5 hM.2.1) lay_low
      have ef : fX1_greedyFor N S.2.2.2.2.2.2.2.1.1 S.2.2.2.2.2.2.2.1.2.1 S.2.2.2.2.2.2.2.1.2.2.1 S.2.2.2.2.2.2.2.1.2.2.2.1 S.2.2.2.2.2.2.2.1.2.2.2.2.1 S.2.2.2.2.2.2.2.1.2.2.2.2.2.1 S.1.1 S.1.2.1 S.1.2.2.1 S.1.2.2.2.1 S.1.2.2.2.2.1 S.1.2.2.2.2.2.1 S.1.2.2.2.2.2.2.1 S.1.2.2.2.2.2.2.2.1 S.1.2.2.2.2.2.2.2.2.1 S.1.2.2.2.2.2.2.2.2.2.1 S.1.2.2.2.2.2.2.2.2.2.2.1 S.1.2.2.2.2.2.2.2.2.2.2.2 (nI v) = some (o.2.1, o.2.2.1, S.1.2.2.2.2.2.2.2.2.1, o.2.2.2.1, o.2.2.2.2, va_cpy S.1.2.2.2.2.2.2.2.2.2.2.2 S.2.2.2.2.2.2.2.1.2.2.2.2.2.1 0 0 5) := by
        unfold fX1_greedyFor fX3_take
        rw [bnd_s]
        exact bnd_eq g1
      have ei := c_ahead N h12 g3 g4
      have em := m_ahead N h12 (by omega) g3 ((g6 26 (by omega)).trans hM.1.2.1) g5
      rw [ef, bnd_s, show fX8_greedy_L30 N (nI v) y1 N 0 _ = some o' from g2, bnd_s, show fX0_iceAhead N S.1.1 o.2.1 o.2.2.2.1 = some (nI (if c.1 ≤ m'.1 then 0 else m'.2.2.2.1 m'.1)) by rw [show S.1.1 = nI c.1 from hC.1.1]; exact ei, bnd_s, show fX8_iceAhead N o'.2 484 = _ from em, bnd_s]
      have fin : RC S.1 S.2.1 o'.2 ∧ RI S.2.2.1 S.2.2.2.1 S.2.2.2.2.1 M.1 o'.2 := ⟨⟨c, m, k, h, hB, hC, snm_agree hB hM (fun q hq => g6 q (by omega))⟩, hI.keep (fun j h1 h2 => g6 j h2)⟩
      by_cases q : y1 = 0
      · rw [if_pos q, if_pos q]
        exact ⟨_, _, rfl, rfl, g4.1.trans g5.1.symm, fin.1, fin.2, hT, hD, hZ⟩
      · rw [if_neg q, if_neg q]
        exact ⟨_, _, rfl, rfl, rfl, fin.1, fin.2, hT, hD, hZ⟩
    · rw [if_neg hw, if_neg hw]; exact ⟨_, _, rfl, rfl, rfl, hR⟩
  · rw [if_neg hy, if_neg hy]; exact ⟨_, _, rfl, rfl, rfl, hR⟩
theorem through_L (N : Nat) (hN : 1000 ≤ N) {c : AC} {C : BV_canal} {row : Nat → Int32} (hB : CAB' c) (hC : CCA' c C) (hM : MCA' c row) {draw : Int32} {fors : Nat → Int32} : ∀ (n x T : Nat) (m : AM) (boat minute : Int32) (ice juice row' : Nat → Int32), x ≤ 100 → 100 - x < n → T + (100 - x) ≤ 20000 → MBD c.1 c.2.1 c.2.2.1 T m → CMO c.1 c.2.2.1 m boat minute draw ice juice fors → MOM c.1 c.2.2.1 484 m row' → (∀ q, q < 484 → row' q = row q) →
    ∃ o o', fX1_minutesUntilThrough_L13 N draw fors C.1 C.2.1 C.2.2.1 C.2.2.2.1 C.2.2.2.2.1 C.2.2.2.2.2.1 n (nI x) boat minute ice juice = some o ∧ fX8_through_L6 N n (nI x) row' = some o' ∧ ((∃ u v, o = .inl u ∧ o' = .inl v ∧ u.1 = v.1 ∧ ∀ q, q < 484 → v.2 q = row q) ∨ (∃ u v, o = .inr u ∧ o' = .inr v ∧ ∀ q, q < 484 → v.2 q = row q)) := by
  intro n
  induction n with
  | zero => intro x T m boat minute ice juice row' hx hn; omega
  | succ n ih =>
    intro x T m boat minute ice juice row' hx hn hT hb hO hO' e
    rw [fX1_minutesUntilThrough_L13, fX8_through_L6]
    have h12 := hB.1
    by_cases he : x = 100
    · subst he
      exact ⟨_, _, if_pos (show (99 : Int32) < nI 100 by decide), if_pos (show (100 : Int32) ≤ nI 100 by decide), Or.inr ⟨_, _, rfl, rfl, e⟩⟩
    · have q1 : ¬ (99 : Int32) < nI x := fun z => by have := (nlt (a := 99) (by omega) (by omega)).mp z; omega
      have q2 : ¬ (100 : Int32) ≤ nI x := fun z => by have := (nle (a := 100) (by omega) (by omega)).mp z; omega
      obtain ⟨y, o, r, f1, f2, f3, f4, f5, f6, f7, f8⟩ := fore_step N hN hB hC hM hb (by omega) hO hO' e
      have t2 := m_thr N h12 hb.1 (show 484 ≤ 484 by omega) hO'.1 ((e 26 (by omega)).trans hM.2.1)
      rw [if_neg q1, if_neg q2, show fX0_isThrough N C.1 boat = some (b2i (decide (c.1 ≤ m.1))) by rw [hC.1, hO.1]; exact c_thr N h12 hb.1, bnd_s, show fX8_isThrough N row' 484 = _ from t2, bnd_s, ite_b2i, ite_b2i]
      simp only [decide_eq_true_eq]
      by_cases q : c.1 ≤ m.1
      · rw [if_pos q, if_pos q]
        exact ⟨_, _, rfl, rfl, Or.inl ⟨_, _, rfl, rfl, rfl, e⟩⟩
      · rw [if_neg q, if_neg q, f1, bnd_s, f2, bnd_s, f3, bnd_s, f4, bnd_s, n_s1]
        exact ih (x + 1) (T + 1) _ _ _ _ _ _ (by omega) (by omega) (by omega) f5 f6 f7 f8
theorem sim_through (N : Nat) (hN : 1000 ≤ N) : Simthrough N Rel := by
  intro S M hR
  obtain ⟨⟨c, m, k, h, hB, hC, hM⟩, hI, hT, hD, hZ⟩ := id hR
  have h12 := hB.1.1
  have h5 := hB.1.2.2.1
  obtain ⟨o, o', g1, g2, g3⟩ := through_L N hN (C := S.1) (row := M.2.2.2.2.2.2.2.2.2.1) hB.1 hC.1 hM.1 N 0 9999 m _ _ _ _ _ (by omega) (by omega) (by omega) hB.2.1 (cmo_take h12 h5 hC.2.1 (i2 := S.2.2.2.2.2.2.2.1.2.2.2.1) (j2 := S.2.2.2.2.2.2.2.1.2.2.2.2.1) (f2 := S.2.2.2.2.2.2.2.1.2.2.2.2.2.1)) (lay_mom h12 h5 hM.2.1) lay_low
  unfold fX7_through fX8_through fX1_minutesUntilThrough fX3_take
  rw [m_lay N hN, bnd_s, bnd_s, show fX8_through_L6 N N 0 _ = _ from g2, bnd_s, show fX1_minutesUntilThrough_L13 N _ _ _ _ _ _ _ _ N 0 _ _ _ _ = _ from g1, bnd_s]
  rcases g3 with ⟨u, v, rfl, rfl, g4, g5⟩ | ⟨u, v, rfl, rfl, g5⟩
  · exact ⟨_, _, rfl, rfl, g4, ⟨c, m, k, h, hB, hC, snm_agree hB hM (fun q hq => g5 q (by omega))⟩, hI.keep (fun j h1 h2 => g5 j h2), hT, hD, hZ⟩
  · exact ⟨_, _, rfl, rfl, rfl, ⟨c, m, k, h, hB, hC, snm_agree hB hM (fun q hq => g5 q (by omega))⟩, hI.keep (fun j h1 h2 => g5 j h2), hT, hD, hZ⟩
