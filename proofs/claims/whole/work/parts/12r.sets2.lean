/-! SIM minds, sway, boats, enough -/
theorem minds_L (N : Nat) (hN : 1000 ≤ N) {np s : Nat} {r : Nat → Nat} {r0 : Nat} {people minute x2 : Int32} {kind weight juice fors row : Nat → Int32} (h6 : np ≤ 6) (hs : s < 5) (hr : ∀ t, t < 2 ^ np → r t ≤ 1000) (hr0 : r0 ≤ 1000) (hp : people = nI np) (e27 : row 27 = nI np)
    (H1 : ∀ t, t < 2 ^ np → fX0_swayedRocks N people kind weight minute juice fors (nI s) (nI t) = some (nI (r t))) (H2 : ∀ t, t < 2 ^ np → fX8_rockWith N row (nI s) (row (20 + s) ^^^ nI t) (nI (2 ^ np - 1)) = some (nI (r t))) :
    ∀ (n p : Nat) (bb mm : Int32), p ≤ np → np - p < n → ((bb = -4 ∧ mm = nI r0) ∨ (∃ b, b < p ∧ bb = nI b ∧ mm = nI (r (2 ^ b)))) →
    ∃ o o', fX1_bestMind_L17 N (nI s) people kind weight minute juice fors n bb mm (nI p) = some o ∧ fX8_minds_L34 N (nI s) x2 row n bb mm (nI p) = some o' ∧ ((o.1 = -4 ∧ o'.1 = -4) ∨ (∃ b, b < np ∧ o.1 = nI b ∧ o'.1 = nI b ∧ o'.2.1 = nI (r (2 ^ b)))) := by
  intro n
  induction n with
  | zero => intro p bb mm h1 h2; omega
  | succ n ih =>
    intro p bb mm h1 h2 hI
    rw [fX1_bestMind_L17, fX8_minds_L34, e27, hp]
    by_cases he : p = np
    · have q : nI np ≤ nI p := (nle (by omega) (by omega)).mpr (by omega)
      refine ⟨_, _, if_pos q, if_pos q, ?_⟩
      rcases hI with ⟨a1, a2⟩ | ⟨b, b1, b2, b3⟩
      · exact Or.inl ⟨a1, a1⟩
      · exact Or.inr ⟨b, by omega, b2, b2, b3⟩
    · have q : ¬ nI np ≤ nI p := fun z => by have := (nle (by omega) (by omega)).mp z; omega
      have ht : 2 ^ p < 2 ^ np := Nat.pow_lt_pow_right (by decide) (by omega)
      have hrt := hr _ ht
      rw [hp] at H1 ih
      rw [if_neg q, if_neg q, s_one p (by omega), H1 _ ht, bnd_s, show (20 : Int32) + nI s = nI (20 + s) from nI_add 20 s, ixb_nI (by omega), m_all N h6 e27, bnd_s, H2 _ ht, bnd_s, n_s1]
      have key : ∀ v, v ≤ 1000 → mm = nI v → ((bb = -4 ∧ mm = nI r0) ∨ (∃ b, b < p ∧ bb = nI b ∧ mm = nI (r (2 ^ b)))) → ∃ o o', (if nI (r (2 ^ p)) ≤ mm then fX1_bestMind_L17 N (nI s) (nI np) kind weight minute juice fors n bb mm (nI (p + 1)) else fX1_bestMind_L17 N (nI s) (nI np) kind weight minute juice fors n (nI p) (nI (r (2 ^ p))) (nI (p + 1))) = some o ∧ (if nI (r (2 ^ p)) ≤ mm then if nI (r (2 ^ p)) ≤ mm then fX8_minds_L34 N (nI s) x2 row n bb mm (nI (p + 1)) else fX8_minds_L34 N (nI s) x2 row n bb (nI (r (2 ^ p))) (nI (p + 1)) else if nI (r (2 ^ p)) ≤ mm then fX8_minds_L34 N (nI s) x2 row n (nI p) mm (nI (p + 1)) else fX8_minds_L34 N (nI s) x2 row n (nI p) (nI (r (2 ^ p))) (nI (p + 1))) = some o' ∧ ((o.1 = -4 ∧ o'.1 = -4) ∨ (∃ b, b < np ∧ o.1 = nI b ∧ o'.1 = nI b ∧ o'.2.1 = nI (r (2 ^ b)))) := by
        intro v hv hmm hI
        by_cases qr : nI (r (2 ^ p)) ≤ mm
        · rw [if_pos qr, if_pos qr, if_pos qr]
          refine ih (p + 1) _ _ (by omega) (by omega) ?_
          rcases hI with h | ⟨b, b1, b2, b3⟩
          · exact Or.inl h
          · exact Or.inr ⟨b, by omega, b2, b3⟩
        · rw [if_neg qr, if_neg qr, if_neg qr]
          exact ih (p + 1) _ _ (by omega) (by omega) (Or.inr ⟨p, by omega, rfl, rfl⟩)
      rcases hI with ⟨a1, a2⟩ | ⟨b, b1, b2, b3⟩
      · exact key _ hr0 a2 (Or.inl ⟨a1, a2⟩)
      · exact key _ (hr _ (Nat.pow_lt_pow_right (by decide) (by omega))) b3 (Or.inr ⟨b, b1, b2, b3⟩)
/-- what both sway to -/
theorem sway_H (N : Nat) (hN : 1000 ≤ N) {c : AC} {m : AM} {k : Nat} {h : Nat → AM} {C : BV_canal} {Y : BV_history} {row : Nat → Int32} (hB : SNB c m k h) (hC : SNC c m k h C Y) (hM : SNM c m k h row) {s : Nat} (hs : s < c.2.2.1) : ∃ r : Nat → Nat, (∀ t, t < 2 ^ c.2.1 → r t ≤ 1000) ∧ (∀ t, t < 2 ^ c.2.1 → fX0_swayedRocks N (nI c.2.1) C.2.2.2.2.1 C.2.2.2.2.2.1 (nI m.2.1) C.2.2.2.2.2.2.2.2.2.2.1 C.2.2.2.2.2.2.2.2.2.2.2 (nI s) (nI t) = some (nI (r t))) ∧ ∀ t, t < 2 ^ c.2.1 → fX8_rockWith N row (nI s) (row (20 + s) ^^^ nI t) (nI (2 ^ c.2.1 - 1)) = some (nI (r t)) := by
  have h6 := hB.1.2.1
  have h64 := pow6 h6
  have hmm := hB.2.1.2.1
  have hpos : 0 < 2 ^ c.2.1 := Nat.pos_of_ne_zero (by simp)
  have er : row (20 + s) = nI (m.2.2.2.2.2 s) := by have := (hM.2.1.2.2.2.2 s hs).2; rwa [Nat.zero_add] at this
  have hf := (hB.2.1.2.2.2.2 s hs).2
  refine ⟨fun t => brk c.2.1 c.2.2.2.2.1 c.2.2.2.2.2 (m.2.2.2.2.1 s) (m.2.2.2.2.2 s ^^^ t) (2 ^ c.2.1 - 1) (decide (m.2.1 % 2 = 0)), fun t ht => Nat.le_trans (brk_le h6 (fun q hq => (hB.1.2.2.2.2 q hq).2.2) (hB.2.1.2.2.2.2 s hs).1) (by omega), fun t ht => c_sway N hN (PR.of hB.1 hC.1) (SR.of hB.1 hB.2.1 hC.2.1) (by omega) hs (by omega), fun t ht => ?_⟩
  rw [er, s_xor _ (by omega) _ (by omega)]
  exact m_with N hN (QR.of hB.1 hM.1) (TR.of hB.1 hB.2.1 hM.1 (by omega) hM.2.1) hM.2.1.2.1 (by omega) hs (xor_lt64 (by omega) (by omega)) (by omega)
theorem sim_minds (N : Nat) (hN : 1000 ≤ N) : Simminds N Rel := by
  intro S M y0 y1 hR
  obtain ⟨⟨c, m, k, h, hB, hC, hM⟩, hI, hT, hD, hZ⟩ := id hR
  have h6 := hB.1.2.1
  have h5 := hB.1.2.2.1
  have hmm := hB.2.1.2.1
  have e1 : S.1.2.1 = nI c.2.1 := hC.1.2.1
  have e2 : S.1.2.2.1 = nI c.2.2.1 := hC.1.2.2.1
  have e3 : S.1.2.2.2.2.2.2.2.1 = nI m.2.1 := hC.2.1.2.1
  unfold fX7_minds fX8_minds
  rw [e1, e2, e3, c_hasSaying N y0 (by omega), m_isSaying N y0 (by omega) hM.1.2.2.2.1, c_within, m_in32]
  simp only [bnd_s, ite_b2i, L64, L32, decide_eq_true_eq]
  by_cases hy : 0 ≤ y0.toInt ∧ y0.toInt < c.2.2.1
  · rw [if_pos hy, if_pos hy]
    obtain ⟨s, hs, rfl⟩ := rng hy
    by_cases hw : 0 ≤ y1.toInt ∧ y1.toInt ≤ 1
    · rw [if_pos hw, if_pos hw]
      obtain ⟨r, r1, r2, r3⟩ := sway_H N hN hB hC hM hs
      have P := PR.of hB.1 hC.1
      have SS := SR.of hB.1 hB.2.1 hC.2.1
      have c0 := c_rock N hN P SS (nm := m.2.1) (by omega) hs
      have m0 := m_rock N hN (QR.of hB.1 hM.1) (TR.of hB.1 hB.2.1 hM.1 (by omega) hM.2.1) hM.2.1.2.1 (by omega) hs
      rw [show (nI 0 : Int32) = 0 from rfl] at m0
      obtain ⟨o, o', g1, g2, g3⟩ := minds_L N hN (x2 := y1) h6 (show s < 5 by omega) r1 (Nat.le_trans (rok_le P SS (nm := m.2.1) hs) (by omega)) rfl hM.1.2.2.1 r2 r3 N 0 (-4) _ (by omega) (by omega) (Or.inl ⟨rfl, rfl⟩)
      unfold fX1_bestMind
      rw [c0, bnd_s, m0, bnd_s, show fX8_minds_L34 N (nI s) y1 _ N (-4) _ 0 = _ from g2, bnd_s, show fX1_bestMind_L17 N (nI s) (nI c.2.1) _ _ _ _ _ N (-4) _ 0 = _ from g1, bnd_s, bnd_s]
      rcases g3 with ⟨a1, a2⟩ | ⟨b, b1, b2, b3, b4⟩
      · exact ⟨_, _, if_pos a1, if_pos a2, a2.symm, hR⟩
      · have ht : 2 ^ b < 2 ^ c.2.1 := Nat.pow_lt_pow_right (by decide) b1
        rw [b2, b3, b4, if_neg (n_ne4 (by omega)), if_neg (n_ne4 (by omega)), s_one b (by omega), r2 _ ht, bnd_s]
        by_cases q : y1 = 0
        · rw [if_pos q]; exact ⟨_, _, rfl, rfl, rfl, hR⟩
        · rw [if_neg q]; exact ⟨_, _, rfl, rfl, rfl, hR⟩
    · rw [if_neg hw, if_neg hw]; exact ⟨_, _, rfl, rfl, rfl, hR⟩
  · rw [if_neg hy, if_neg hy]; exact ⟨_, _, rfl, rfl, rfl, hR⟩
theorem sway_L (N : Nat) (hN : 1000 ≤ N) {np s v : Nat} {r : Nat → Nat} {people minute x3 : Int32} {kind weight juice fors row : Nat → Int32} (h6 : np ≤ 6) (hs : s < 5) (hv : v ≤ 200) (hr : ∀ t, t < 2 ^ np → r t ≤ 1000) (hp : people = nI np) (e27 : row 27 = nI np)
    (H1 : ∀ t, t < 2 ^ np → fX0_swayedRocks N people kind weight minute juice fors (nI s) (nI t) = some (nI (r t))) (H2 : ∀ t, t < 2 ^ np → fX8_rockWith N row (nI s) (row (20 + s) ^^^ nI t) (nI (2 ^ np - 1)) = some (nI (r t))) :
    ∀ (n t : Nat) (bb fw : Int32), t ≤ 2 ^ np → 2 ^ np - t < n → ((bb = -4 ∧ fw = 7) ∨ (∃ b, b < t ∧ bb = nI b ∧ fw = nI (popc b))) →
    ∃ o o', fX1_fewestMinds_L11 N (nI s) (nI v) people kind weight minute juice fors n bb fw (nI t) = some o ∧ fX8_sway_L39 N (nI s) (nI v) x3 row n bb (nI t) = some o' ∧ ((o.1 = -4 ∧ o'.1 = -4) ∨ (∃ b, b < 2 ^ np ∧ o.1 = nI b ∧ o'.1 = nI b)) := by
  have h64 := pow6 h6
  have hpos : 0 < 2 ^ np := Nat.pos_of_ne_zero (by simp)
  intro n
  induction n with
  | zero => intro t bb fw h1 h2; omega
  | succ n ih =>
    intro t bb fw h1 h2 hI
    rw [fX1_fewestMinds_L11, fX8_sway_L39, hp, c_all N h6, bnd_s, m_all N h6 e27, bnd_s]
    by_cases he : t = 2 ^ np
    · have q : nI (2 ^ np - 1) < nI t := (nlt (by omega) (by omega)).mpr (by omega)
      refine ⟨_, _, if_pos q, if_pos q, ?_⟩
      rcases hI with ⟨a1, a2⟩ | ⟨b, b1, b2, b3⟩
      · exact Or.inl ⟨a1, a1⟩
      · exact Or.inr ⟨b, by omega, b2, b2⟩
    · have q : ¬ nI (2 ^ np - 1) < nI t := fun z => by have := (nlt (by omega) (by omega)).mp z; omega
      have ht : t < 2 ^ np := by omega
      have hrt := hr t ht
      have hpc := popc_le t
      rw [hp] at H1 ih
      rw [if_neg q, if_neg q, show (20 : Int32) + nI s = nI (20 + s) from nI_add 20 s, ixb_nI (by omega), bnd_s, s_pop N t (by omega), bnd_s, m_bits N hN (by omega), bnd_s, H1 t ht, bnd_s, H2 t ht, bnd_s, n_s1]
      rcases hI with ⟨rfl, rfl⟩ | ⟨b, b1, rfl, rfl⟩
      · rw [if_neg (show ¬ (7 : Int32) ≤ nI (popc t) from fun z => by have := (nle (a := 7) (by omega) (by omega)).mp z; omega), if_pos (rfl : (-4 : Int32) = -4)]
        by_cases qr : r t < v
        · have qr' : nI (r t) < nI v := (nlt (by omega) (by omega)).mpr qr
          rw [if_pos qr', if_pos qr']
          exact ih (t + 1) _ _ (by omega) (by omega) (Or.inl ⟨rfl, rfl⟩)
        · have qr' : ¬ nI (r t) < nI v := fun z => qr ((nlt (by omega) (by omega)).mp z)
          rw [if_neg qr', if_neg qr']
          exact ih (t + 1) _ _ (by omega) (by omega) (Or.inr ⟨t, by omega, rfl, rfl⟩)
      · have hpb := popc_le b
        rw [if_neg (n_ne4 (show b < 2 ^ 31 by omega)), m_bits N hN (show b < 64 by omega), bnd_s]
        by_cases qp : popc b ≤ popc t
        · have qp' : nI (popc b) ≤ nI (popc t) := (nle (by omega) (by omega)).mpr qp
          rw [if_pos qp', if_pos qp']
          have := ih (t + 1) (nI b) (nI (popc b)) (by omega) (by omega) (Or.inr ⟨b, by omega, rfl, rfl⟩)
          by_cases qr : nI (r t) < nI v
          · rw [if_pos qr]; exact this
          · rw [if_neg qr]; exact this
        · have qp' : ¬ nI (popc b) ≤ nI (popc t) := fun z => qp ((nle (by omega) (by omega)).mp z)
          rw [if_neg qp', if_neg qp']
          by_cases qr : nI (r t) < nI v
          · rw [if_pos qr, if_pos qr]
            exact ih (t + 1) (nI b) (nI (popc b)) (by omega) (by omega) (Or.inr ⟨b, by omega, rfl, rfl⟩)
          · rw [if_neg qr, if_neg qr]
            exact ih (t + 1) _ _ (by omega) (by omega) (Or.inr ⟨t, by omega, rfl, rfl⟩)
theorem sim_sway (N : Nat) (hN : 1000 ≤ N) : Simsway N Rel := by
  intro S M y0 y1 y2 hR
  obtain ⟨⟨c, m, k, h, hB, hC, hM⟩, hI, hT, hD, hZ⟩ := id hR
  have h6 := hB.1.2.1
  have h5 := hB.1.2.2.1
  have h64 := pow6 h6
  have e1 : S.1.2.1 = nI c.2.1 := hC.1.2.1
  have e2 : S.1.2.2.1 = nI c.2.2.1 := hC.1.2.2.1
  have e3 : S.1.2.2.2.2.2.2.2.1 = nI m.2.1 := hC.2.1.2.1
  unfold fX7_sway fX8_sway
  rw [e1, e2, e3, c_hasSaying N y0 (by omega), m_isSaying N y0 (by omega) hM.1.2.2.2.1, c_within, c_within, m_in32, m_in32]
  simp only [bnd_s, ite_b2i, L64, L32, decide_eq_true_eq]
  by_cases hy : 0 ≤ y0.toInt ∧ y0.toInt < c.2.2.1
  · rw [if_pos hy, if_pos hy]
    obtain ⟨s, hs, rfl⟩ := rng hy
    by_cases hv : 1 ≤ y1.toInt ∧ y1.toInt ≤ 200
    · rw [if_pos hv, if_pos hv]
      obtain ⟨v, hv1, hv2, rfl⟩ := rngl (a := 1) (n := 200) hv
      by_cases hw : 0 ≤ y2.toInt ∧ y2.toInt ≤ 1
      · rw [if_pos hw, if_pos hw]
        obtain ⟨w, -, hw2, rfl⟩ := rngl (a := 0) (n := 1) hw
        obtain ⟨r, r1, r2, r3⟩ := sway_H N hN hB hC hM hs
        obtain ⟨o, o', g1, g2, g3⟩ := sway_L N hN (x3 := nI w) h6 (show s < 5 by omega) hv2 r1 rfl hM.1.2.2.1 r2 r3 N 0 (-4) 7 (Nat.zero_le _) (by omega) (Or.inl ⟨rfl, rfl⟩)
        unfold fX1_fewestMinds
        rw [show fX8_sway_L39 N (nI s) (nI v) (nI w) _ N (-4) 0 = _ from g2, bnd_s, show fX1_fewestMinds_L11 N (nI s) (nI v) (nI c.2.1) _ _ _ _ _ N (-4) 7 0 = _ from g1, bnd_s, bnd_s]
        rcases g3 with ⟨a1, a2⟩ | ⟨b, b1, b2, b3⟩
        · exact ⟨_, _, if_pos a1, if_pos a2, a2.symm, hR⟩
        · rw [b2, b3, if_neg (n_ne4 (by omega)), if_neg (n_ne4 (by omega)), s_pop N b (by omega), bnd_s, m_bits N hN (by omega), bnd_s]
          have hc : w = 0 ∨ w = 1 := by omega
          rcases hc with rfl | rfl
          · exact ⟨_, _, if_pos rfl, if_neg (by decide), rfl, hR⟩
          · exact ⟨_, _, if_neg (by decide), if_pos rfl, rfl, hR⟩
      · rw [if_neg hw, if_neg hw]; exact ⟨_, _, rfl, rfl, rfl, hR⟩
    · rw [if_neg hv, if_neg hv]; exact ⟨_, _, rfl, rfl, rfl, hR⟩
  · rw [if_neg hy, if_neg hy]; exact ⟨_, _, rfl, rfl, rfl, hR⟩
