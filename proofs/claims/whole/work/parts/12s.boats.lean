/-! SIM boats, enough -/
def mxk (r : Nat → Nat) : Nat → Nat
  | 0 => 0
  | j + 1 => max (mxk r j) (r j)
theorem mxk_le {r : Nat → Nat} : ∀ j, (∀ i, i < j → r i ≤ 1000) → mxk r j ≤ 1000
  | 0, _ => by simp [mxk]
  | j + 1, h => by
    have := mxk_le j (fun i hi => h i (by omega))
    have := h j (by omega)
    unfold mxk
    omega
theorem c_part_L (N : Nat) {np ns t : Nat} {r r' : Nat → Nat} {people minute : Int32} {kind weight juice fors : Nat → Int32} (h6 : np ≤ 6) (h5 : ns ≤ 5) (hp : people = nI np) (hr : ∀ s, s < ns → r s ≤ 1000) (hr' : ∀ s, s < ns → r' s ≤ 1000)
    (H : ∀ s, s < ns → fX0_crewRocks N people kind weight minute juice fors (nI s) (nI t) = some (nI (r s))) (H' : ∀ s, s < ns → fX0_crewRocks N people kind weight minute juice fors (nI s) (nI (2 ^ np - 1) &&& (nI t ^^^ (-1))) = some (nI (r' s))) :
    ∀ (n j : Nat), j ≤ ns → ns - j < n → fX0_partingRocks_L7 N (nI t) people (nI ns) kind weight minute juice fors n (nI (mxk r j)) (nI (mxk r' j)) (nI j) = some (nI (mxk r ns), nI (mxk r' ns), nI ns) := by
  intro n
  induction n with
  | zero => intro j h1 h2; omega
  | succ n ih =>
    intro j h1 h2
    rw [fX0_partingRocks_L7]
    by_cases he : j = ns
    · subst he; rw [if_pos ((nle (by omega) (by omega)).mpr (Nat.le_refl _))]
    · have a1 := mxk_le (r := r) j (fun i hi => hr i (by omega))
      have a2 := mxk_le (r := r') j (fun i hi => hr' i (by omega))
      have a3 := hr j (by omega)
      have a4 := hr' j (by omega)
      rw [if_neg (fun z => by have := (nle (by omega) (by omega)).mp z; omega), H j (by omega), bnd_s, show fX0_everybody N people = some (nI (2 ^ np - 1)) by rw [hp]; exact c_all N h6, bnd_s, H' j (by omega), bnd_s, n_imax (by omega) (by omega), n_imax (by omega) (by omega), n_s1]
      exact ih (j + 1) (by omega) (by omega)
theorem m_most_L (N : Nat) {ns t : Nat} {r : Nat → Nat} {row : Nat → Int32} (h5 : ns ≤ 5) (e28 : row 28 = nI ns) (hr : ∀ s, s < ns → r s ≤ 1000) (H : ∀ s, s < ns → fX8_rockWith N row (nI s) (row (20 + s)) (nI t) = some (nI (r s))) : ∀ (n j : Nat), j ≤ ns → ns - j < n → fX8_mostIn_L4 N (nI t) row n (nI (mxk r j)) (nI j) = some (nI (mxk r ns), nI ns) := by
  intro n
  induction n with
  | zero => intro j h1 h2; omega
  | succ n ih =>
    intro j h1 h2
    rw [fX8_mostIn_L4, e28]
    by_cases he : j = ns
    · subst he; rw [if_pos ((nle (by omega) (by omega)).mpr (Nat.le_refl _))]
    · have a1 := mxk_le (r := r) j (fun i hi => hr i (by omega))
      have a3 := hr j (by omega)
      have i := ih (j + 1) (by omega) (by omega)
      rw [if_neg (fun z => by have := (nle (by omega) (by omega)).mp z; omega), show (20 : Int32) + nI j = nI (20 + j) from nI_add 20 j, ixb_nI (by omega), H j (by omega), bnd_s, n_s1]
      have eu : mxk r (j + 1) = max (mxk r j) (r j) := rfl
      by_cases q : r j ≤ mxk r j
      · rw [eu, Nat.max_eq_left q] at i
        rw [if_pos ((nle (by omega) (by omega)).mpr q)]; exact i
      · rw [eu, Nat.max_eq_right (by omega)] at i
        rw [if_neg (fun z => q ((nle (by omega) (by omega)).mp z))]; exact i
theorem boats_L (N : Nat) (hN : 1000 ≤ N) {np : Nat} {r a b : Nat → Nat} {people sayings minute x1 : Int32} {kind weight juice fors row : Nat → Int32} (h6 : np ≤ 6) (ha : ∀ t, t < 2 ^ np → a t ≤ 1000 ∧ b t ≤ 1000 ∧ r t = min (a t) (b t)) (hp : people = nI np) (e27 : row 27 = nI np)
    (H1 : ∀ t, t < 2 ^ np → fX0_partingRocks N people sayings kind weight minute juice fors (nI t) = some (nI (r t))) (H2 : ∀ t, t < 2 ^ np → fX8_mostIn N row (nI t) = some (nI (a t)) ∧ fX8_mostIn N row (nI (2 ^ np - 1) &&& (nI t ^^^ (-1))) = some (nI (b t))) :
    ∀ (n t : Nat) (bb mm : Int32), t ≤ 2 ^ np → 2 ^ np - t < n → ((bb = 0 ∧ mm = -1 ∧ t = 0) ∨ (∃ q, q < t ∧ bb = nI q ∧ mm = nI (r q))) →
    ∃ o o' q, fX1_bestParting_L7 N people sayings kind weight minute juice fors n bb mm (nI t) = some o ∧ fX8_boats_L19 N x1 row n bb mm (nI t) = some o' ∧ q < 2 ^ np ∧ o.1 = nI q ∧ o'.1 = nI q ∧ o'.2.1 = nI (r q) := by
  have h64 := pow6 h6
  have hpos : 0 < 2 ^ np := Nat.pos_of_ne_zero (by simp)
  intro n
  induction n with
  | zero => intro t bb mm h1 h2; omega
  | succ n ih =>
    intro t bb mm h1 h2 hI
    rw [fX1_bestParting_L7, fX8_boats_L19, hp, c_all N h6, bnd_s, m_all N h6 e27, bnd_s]
    by_cases he : t = 2 ^ np
    · have q : nI (2 ^ np - 1) < nI t := (nlt (by omega) (by omega)).mpr (by omega)
      rcases hI with ⟨a1, a2, a3⟩ | ⟨x, b1, b2, b3⟩
      · omega
      · exact ⟨_, _, x, if_pos q, if_pos q, by omega, b2, b2, b3⟩
    · have q : ¬ nI (2 ^ np - 1) < nI t := fun z => by have := (nlt (by omega) (by omega)).mp z; omega
      have ht : t < 2 ^ np := by omega
      have hlt : 2 ^ np - (t + 1) < n := by clear hI; omega
      have hlt2 : t + 1 ≤ 2 ^ np := ht
      obtain ⟨a1, b1, r1⟩ := ha t ht
      obtain ⟨m1, m2⟩ := H2 t ht
      rw [hp] at H1 ih
      rw [if_neg q, if_neg q, H1 t ht, bnd_s, m1, bnd_s, bnd_s, m2, bnd_s, n_s1]
      have key : ∃ o o' q, (if nI (r t) ≤ mm then fX1_bestParting_L7 N (nI np) sayings kind weight minute juice fors n bb mm (nI (t + 1)) else fX1_bestParting_L7 N (nI np) sayings kind weight minute juice fors n (nI t) (nI (r t)) (nI (t + 1))) = some o ∧ (if nI (r t) ≤ mm then if nI (r t) ≤ mm then fX8_boats_L19 N x1 row n bb mm (nI (t + 1)) else fX8_boats_L19 N x1 row n bb (nI (r t)) (nI (t + 1)) else if nI (r t) ≤ mm then fX8_boats_L19 N x1 row n (nI t) mm (nI (t + 1)) else fX8_boats_L19 N x1 row n (nI t) (nI (r t)) (nI (t + 1))) = some o' ∧ q < 2 ^ np ∧ o.1 = nI q ∧ o'.1 = nI q ∧ o'.2.1 = nI (r q) := by
        by_cases qr : nI (r t) ≤ mm
        · rw [if_pos qr, if_pos qr, if_pos qr]
          refine ih (t + 1) _ _ hlt2 hlt ?_
          rcases hI with ⟨c1, c2, c3⟩ | ⟨x, d1, d2, d3⟩
          · rw [c2] at qr; exact absurd qr (n_nm1 (by omega))
          · exact Or.inr ⟨x, by omega, d2, d3⟩
        · rw [if_neg qr, if_neg qr, if_neg qr]
          exact ih (t + 1) _ _ hlt2 hlt (Or.inr ⟨t, Nat.lt_succ_self t, rfl, rfl⟩)
      by_cases qab : b t ≤ a t
      · rw [if_pos ((nle (by omega) (by omega)).mpr qab)]
        rw [Nat.min_eq_right qab] at r1
        rw [← r1]; exact key
      · rw [if_neg (fun z => qab ((nle (by omega) (by omega)).mp z))]
        rw [Nat.min_eq_left (by omega)] at r1
        rw [← r1]; exact key
theorem sim_boats (N : Nat) (hN : 1000 ≤ N) : Simboats N Rel := by
  intro S M y0 hR
  obtain ⟨⟨c, m, k, h, hB, hC, hM⟩, hI, hT, hD, hZ⟩ := id hR
  have h6 := hB.1.2.1
  have h5 := hB.1.2.2.1
  have h64 := pow6 h6
  have hmm := hB.2.1.2.1
  have hpos : 0 < 2 ^ c.2.1 := Nat.pos_of_ne_zero (by simp)
  have e1 : S.1.2.1 = nI c.2.1 := hC.1.2.1
  have e2 : S.1.2.2.1 = nI c.2.2.1 := hC.1.2.2.1
  have e3 : S.1.2.2.2.2.2.2.2.1 = nI m.2.1 := hC.2.1.2.1
  have P := PR.of hB.1 hC.1
  have Q := QR.of hB.1 hM.1
  have SS := SR.of hB.1 hB.2.1 hC.2.1
  have TT := TR.of hB.1 hB.2.1 hM.1 (by omega) hM.2.1
  have er : ∀ s, s < c.2.2.1 → M.2.2.2.2.2.2.2.2.2.1 (20 + s) = nI (m.2.2.2.2.2 s) := fun s hs => by have := (hM.2.1.2.2.2.2 s hs).2; rwa [Nat.zero_add] at this
  have G1 : ∀ t, t < 64 → ∀ s, s < c.2.2.1 → fX0_crewRocks N (nI c.2.1) S.1.2.2.2.2.1 S.1.2.2.2.2.2.1 (nI m.2.1) S.1.2.2.2.2.2.2.2.2.2.2.1 S.1.2.2.2.2.2.2.2.2.2.2.2 (nI s) (nI t) = some (nI (brk c.2.1 c.2.2.2.2.1 c.2.2.2.2.2 (m.2.2.2.2.1 s) (m.2.2.2.2.2 s) t (decide (m.2.1 % 2 = 0)))) := fun t ht s hs => c_crew N hN P SS (by omega) hs ht
  have G2 : ∀ t, t < 2 ^ c.2.1 → ∀ s, s < c.2.2.1 → fX8_rockWith N M.2.2.2.2.2.2.2.2.2.1 (nI s) (M.2.2.2.2.2.2.2.2.2.1 (20 + s)) (nI t) = some (nI (brk c.2.1 c.2.2.2.2.1 c.2.2.2.2.2 (m.2.2.2.2.1 s) (m.2.2.2.2.2 s) t (decide (m.2.1 % 2 = 0)))) := fun t ht s hs => by rw [er s hs]; exact m_with N hN Q TT hM.2.1.2.1 (by omega) hs (by have := (hB.2.1.2.2.2.2 s hs).2; omega) ht
  have G3 : ∀ t s, s < c.2.2.1 → brk c.2.1 c.2.2.2.2.1 c.2.2.2.2.2 (m.2.2.2.2.1 s) (m.2.2.2.2.2 s) t (decide (m.2.1 % 2 = 0)) ≤ 1000 := fun t s hs => Nat.le_trans (brk_le h6 (fun q hq => (hB.1.2.2.2.2 q hq).2.2) (hB.2.1.2.2.2.2 s hs).1) (by omega)
  have eo : ∀ t, t < 2 ^ c.2.1 → nI (2 ^ c.2.1 - 1) &&& (nI t ^^^ (-1)) = nI ((2 ^ c.2.1 - 1) &&& (63 ^^^ t)) := fun t ht => s_nand _ (by omega) _ (by omega)
  have lo : ∀ t, (2 ^ c.2.1 - 1) &&& (63 ^^^ t) < 2 ^ c.2.1 := fun t => Nat.lt_of_le_of_lt Nat.and_le_left (by omega)
  let rr : Nat → Nat → Nat := fun t s => brk c.2.1 c.2.2.2.2.1 c.2.2.2.2.2 (m.2.2.2.2.1 s) (m.2.2.2.2.2 s) t (decide (m.2.1 % 2 = 0))
  have H1 : ∀ t, t < 2 ^ c.2.1 → fX0_partingRocks N (nI c.2.1) (nI c.2.2.1) S.1.2.2.2.2.1 S.1.2.2.2.2.2.1 (nI m.2.1) S.1.2.2.2.2.2.2.2.2.2.2.1 S.1.2.2.2.2.2.2.2.2.2.2.2 (nI t) = some (nI (min (mxk (rr t) c.2.2.1) (mxk (rr ((2 ^ c.2.1 - 1) &&& (63 ^^^ t))) c.2.2.1))) := by
    intro t ht
    have l := c_part_L N (r := rr t) (r' := rr ((2 ^ c.2.1 - 1) &&& (63 ^^^ t))) (t := t) h6 h5 rfl (fun s hs => G3 t s hs) (fun s hs => G3 _ s hs) (fun s hs => G1 t (by omega) s hs) (fun s hs => by rw [eo t ht]; exact G1 _ (by have := lo t; omega) s hs) N 0 (by omega) (by omega)
    unfold fX0_partingRocks
    have a1 := mxk_le (r := rr t) c.2.2.1 (fun s hs => G3 t s hs)
    have a2 := mxk_le (r := rr ((2 ^ c.2.1 - 1) &&& (63 ^^^ t))) c.2.2.1 (fun s hs => G3 _ s hs)
    rw [show fX0_partingRocks_L7 N (nI t) (nI c.2.1) (nI c.2.2.1) _ _ _ _ _ N 0 0 0 = _ from l, bnd_s, n_imin (by omega) (by omega)]
  have H2 : ∀ t, t < 2 ^ c.2.1 → fX8_mostIn N M.2.2.2.2.2.2.2.2.2.1 (nI t) = some (nI (mxk (rr t) c.2.2.1)) := by
    intro t ht
    have l := m_most_L N (r := rr t) (t := t) h5 hM.1.2.2.2.1 (fun s hs => G3 t s hs) (fun s hs => G2 t ht s hs) N 0 (by omega) (by omega)
    unfold fX8_mostIn
    rw [show fX8_mostIn_L4 N (nI t) _ N 0 0 = _ from l, bnd_s]
  obtain ⟨o, o', q, g1, g2, g3, g4, g5, g6⟩ := boats_L N hN (x1 := y0) (r := fun t => min (mxk (rr t) c.2.2.1) (mxk (rr ((2 ^ c.2.1 - 1) &&& (63 ^^^ t))) c.2.2.1)) (a := fun t => mxk (rr t) c.2.2.1) (b := fun t => mxk (rr ((2 ^ c.2.1 - 1) &&& (63 ^^^ t))) c.2.2.1) h6 (fun t ht => ⟨mxk_le _ (fun s hs => G3 _ s hs), mxk_le _ (fun s hs => G3 _ s hs), rfl⟩) rfl hM.1.2.2.1 H1 (fun t ht => ⟨H2 t ht, by rw [eo t ht]; exact H2 _ (lo t)⟩) N 0 0 (-1) (Nat.zero_le _) (by omega) (Or.inl ⟨rfl, rfl, rfl⟩)
  unfold fX7_boats fX8_boats
  rw [e1, e2, e3, c_within, m_in32]
  simp only [bnd_s, ite_b2i, L64, L32, decide_eq_true_eq]
  by_cases hy : 0 ≤ y0.toInt ∧ y0.toInt ≤ 1
  · rw [if_pos hy, if_pos hy]
    unfold fX1_bestParting
    rw [show fX8_boats_L19 N y0 _ N 0 (-1) 0 = _ from g2, bnd_s, show fX1_bestParting_L7 N (nI c.2.1) (nI c.2.2.1) _ _ _ _ _ N 0 (-1) 0 = _ from g1, bnd_s, bnd_s, g4, g5, g6, H1 q g3, bnd_s]
    by_cases qy : y0 = 0
    · rw [if_pos qy]; exact ⟨_, _, rfl, rfl, rfl, hR⟩
    · rw [if_neg qy]; exact ⟨_, _, rfl, rfl, rfl, hR⟩
  · rw [if_neg hy, if_neg hy]; exact ⟨_, _, rfl, rfl, rfl, hR⟩
/-! SIM enough -/
theorem enough_L (N : Nat) {s ah : Nat} {r : Nat → Nat} {cells people boat minute : Int32} {kind weight ice fors row : Nat → Int32} {x : Int32} (hs : s < 5) (ha : ah ≤ 60) (hr : ∀ j, j ≤ 20 → r j ≤ 1000)
    (H1 : ∀ j, j ≤ 20 → (bnd (fX0_everybody N people) fun o6 => bnd (fX3_isEven N minute) fun o8 => bnd (fX0_boatRocks N people kind weight (nI j) (fors s) o6 o8) fun o10 => bnd (fX0_iceAhead N cells boat ice) fun o12 => some (o10, o12)) = some (nI (r j), nI ah))
    (H2 : ∀ j, j ≤ 20 → (bnd (fX8_everybody N row) fun o9 => bnd (fX8_rockBy N row 0 (nI j) (row (20 + s)) o9) fun o11 => bnd (fX8_iceAhead N row 0) fun o13 => some (o11, o13)) = some (nI (r j), nI ah)) (H3 : fX8_isThrough N row 0 = some 0) :
    ∀ (n j : Nat), j ≤ 21 → 21 - j < n → ∃ o o', fX1_leastJuice_L19 N (nI s) cells people kind weight boat minute ice fors n (nI j) = some o ∧ fX8_enough_L12 N (nI s) row n (nI j) = some o' ∧ ((∃ u, o = .inl u ∧ o' = .inl u) ∨ (∃ u v, o = .inr u ∧ o' = .inr v)) := by
  intro n
  induction n with
  | zero => intro j h1 h2; omega
  | succ n ih =>
    intro j h1 h2
    rw [fX1_leastJuice_L19, fX8_enough_L12]
    by_cases he : j = 21
    · subst he
      exact ⟨_, _, if_pos (show (20 : Int32) < nI 21 by decide), if_pos (show (21 : Int32) ≤ nI 21 by decide), Or.inr ⟨_, _, rfl, rfl⟩⟩
    · have q1 : ¬ (20 : Int32) < nI j := fun z => by have := (nlt (a := 20) (by omega) (by omega)).mp z; omega
      have q2 : ¬ (21 : Int32) ≤ nI j := fun z => by have := (nle (a := 21) (by omega) (by omega)).mp z; omega
      have k1 := H1 j (by omega)
      have k2 := H2 j (by omega)
      rw [if_neg q1, if_neg q2, ixb_nI hs, H3, bnd_s, if_pos rfl, show (20 : Int32) + nI s = nI (20 + s) from nI_add 20 s, ixb_nI (by omega), n_s1]
      revert k1 k2
      cases fX0_everybody N people with
      | none => intro k1; cases k1
      | some x6 =>
        cases fX3_isEven N minute with
        | none => intro k1; cases k1
        | some x8 =>
          simp only [bnd_s]
          cases fX0_boatRocks N people kind weight (nI j) (fors s) x6 x8 with
          | none => intro k1; cases k1
          | some x10 =>
            cases fX0_iceAhead N cells boat ice with
            | none => intro k1; cases k1
            | some x12 =>
              cases fX8_everybody N row with
              | none => intro k1 k2; cases k2
              | some y9 =>
                simp only [bnd_s]
                cases fX8_rockBy N row 0 (nI j) (row (20 + s)) y9 with
                | none => intro k1 k2; cases k2
                | some y11 =>
                  cases fX8_iceAhead N row 0 with
                  | none => intro k1 k2; cases k2
                  | some y13 =>
                    simp only [bnd_s]
                    intro k1 k2
                    injection k1 with k1; injection k1 with a1 a2
                    injection k2 with k2; injection k2 with b1 b2
                    subst a1; subst a2; subst b1; subst b2
                    by_cases q : nI (r j) < nI ah
                    · rw [if_pos q, if_pos q]; exact ih (j + 1) (by omega) (by omega)
                    · rw [if_neg q, if_neg q]; exact ⟨_, _, rfl, rfl, Or.inl ⟨_, rfl, rfl⟩⟩
theorem sim_enough (N : Nat) (hN : 1000 ≤ N) : Simenough N Rel := by
  intro S M y0 hR
  obtain ⟨⟨c, m, k, h, hB, hC, hM⟩, hI, hT, hD, hZ⟩ := id hR
  have h12 := hB.1.1
  have h6 := hB.1.2.1
  have h5 := hB.1.2.2.1
  have h64 := pow6 h6
  have hmm := hB.2.1.2.1
  have hpos : 0 < 2 ^ c.2.1 := Nat.pos_of_ne_zero (by simp)
  have e0 : S.1.1 = nI c.1 := hC.1.1
  have e1 : S.1.2.1 = nI c.2.1 := hC.1.2.1
  have e2 : S.1.2.2.1 = nI c.2.2.1 := hC.1.2.2.1
  have e3 : S.1.2.2.2.2.2.2.2.1 = nI m.2.1 := hC.2.1.2.1
  have e4 : S.1.2.2.2.2.2.2.1 = nI m.1 := hC.2.1.1
  have P := PR.of hB.1 hC.1
  have Q := QR.of hB.1 hM.1
  have thr := m_thr N h12 hB.2.1.1 (show 0 ≤ 484 by omega) hM.2.1.1 hM.1.2.1
  have ea := c_ahead N h12 hB.2.1 hC.2.1
  have em := m_ahead N h12 (by omega) hB.2.1 hM.1.2.1 hM.2.1
  rw [show (nI 0 : Int32) = 0 from rfl] at thr em
  unfold fX7_enough fX8_enough
  rw [e0, e1, e2, e3, c_hasSaying N y0 (by omega), m_isSaying N y0 (by omega) hM.1.2.2.2.1]
  simp only [bnd_s, ite_b2i, decide_eq_true_eq]
  by_cases hy : 0 ≤ y0.toInt ∧ y0.toInt < c.2.2.1
  · rw [if_pos hy, if_pos hy]
    obtain ⟨s, hs, rfl⟩ := rng hy
    have hf := (hB.2.1.2.2.2.2 s hs).2
    have er : M.2.2.2.2.2.2.2.2.2.1 (20 + s) = nI (m.2.2.2.2.2 s) := by have := (hM.2.1.2.2.2.2 s hs).2; rwa [Nat.zero_add] at this
    have ef : S.1.2.2.2.2.2.2.2.2.2.2.2 s = nI (m.2.2.2.2.2 s) := (hC.2.1.2.2.2.2 s hs).2
    unfold fX1_leastJuice
    rw [show fX0_isThrough N (nI c.1) S.1.2.2.2.2.2.2.1 = some (b2i (decide (c.1 ≤ m.1))) by rw [e4]; exact c_thr N h12 hB.2.1.1, bnd_s, ite_b2i]
    simp only [decide_eq_true_eq]
    by_cases ht : c.1 ≤ m.1
    · rw [if_pos ht, bnd_s]
      obtain ⟨n, rfl⟩ : ∃ n, N = n + 1 := ⟨N - 1, by omega⟩
      rw [fX8_enough_L12, if_neg (show ¬ (21 : Int32) ≤ 0 by decide), thr, bnd_s, ite_b2i, if_pos (by simpa using ht), bnd_s]
      exact ⟨_, _, rfl, rfl, rfl, hR⟩
    · rw [if_neg ht]
      have t0 : fX8_isThrough N M.2.2.2.2.2.2.2.2.2.1 0 = some 0 := by rw [thr]; simp [ht, b2i]
      obtain ⟨o, o', g1, g2, g3⟩ := enough_L N (s := s) (r := fun j => brk c.2.1 c.2.2.2.2.1 c.2.2.2.2.2 j (m.2.2.2.2.2 s) (2 ^ c.2.1 - 1) (decide (m.2.1 % 2 = 0))) (cells := nI c.1) (people := nI c.2.1) (boat := S.1.2.2.2.2.2.2.1) (minute := nI m.2.1) (kind := S.1.2.2.2.2.1) (weight := S.1.2.2.2.2.2.1) (ice := S.1.2.2.2.2.2.2.2.2.2.1) (fors := S.1.2.2.2.2.2.2.2.2.2.2.2) (row := M.2.2.2.2.2.2.2.2.2.1) (x := 0) (by omega) (aAh_le hB.2.1) (fun j hj => Nat.le_trans (brk_le h6 (fun q hq => (hB.1.2.2.2.2 q hq).2.2) hj) (by omega)) (fun j hj => by
          rw [c_all N h6, bnd_s, c_even N (by omega), bnd_s, ef, c_boat N hN P (by omega) (by omega) hj, bnd_s, ea, bnd_s]; rfl) (fun j hj => by
          have mb := m_boat N hN Q (base := 0) (by omega) hM.2.1.2.1 (by omega) (show m.2.2.2.2.2 s < 64 by omega) (show 2 ^ c.2.1 - 1 < 2 ^ c.2.1 by omega) hj
          rw [show (nI 0 : Int32) = 0 from rfl] at mb
          rw [m_all N h6 hM.1.2.2.1, bnd_s, er, mb, bnd_s, em, bnd_s]; rfl) t0 N 0 (by omega) (by omega)
      rw [show fX1_leastJuice_L19 N (nI s) (nI c.1) (nI c.2.1) _ _ _ _ _ _ N 0 = _ from g1, bnd_s, show fX8_enough_L12 N (nI s) _ N 0 = _ from g2, bnd_s]
      rcases g3 with ⟨u, rfl, rfl⟩ | ⟨u, v, rfl, rfl⟩
      · exact ⟨_, _, rfl, rfl, rfl, hR⟩
      · exact ⟨_, _, rfl, rfl, rfl, hR⟩
  · rw [if_neg hy, if_neg hy]; exact ⟨_, _, rfl, rfl, rfl, hR⟩
