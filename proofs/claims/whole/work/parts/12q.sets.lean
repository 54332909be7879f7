/-! SIM crew, minds, sway, boats, enough -/
theorem n_nm1 {a : Nat} (h : a < 2 ^ 31) : ¬ nI a ≤ -1 := fun z => by rw [Int32.le_iff_toInt_le, tI _ h, show ((-1 : Int32)).toInt = -1 by decide] at z; omega
theorem m1_le {a : Nat} (h : a < 2 ^ 31) : (-1 : Int32) ≤ nI a := by rw [Int32.le_iff_toInt_le, tI _ h, show ((-1 : Int32)).toInt = -1 by decide]; omega
theorem crew_L (N : Nat) (hN : 1000 ≤ N) {np k s : Nat} {r : Nat → Nat} {people minute x3 : Int32} {kind weight juice fors row : Nat → Int32} (h6 : np ≤ 6) (hk : k ≤ 6) (hs : s < 5) (hr : ∀ t, t < 2 ^ np → r t ≤ 1000) (hp : people = nI np) (e27 : row 27 = nI np)
    (H1 : ∀ t, t < 2 ^ np → fX0_crewRocks N people kind weight minute juice fors (nI s) (nI t) = some (nI (r t))) (H2 : ∀ t, t < 2 ^ np → fX8_rockWith N row (nI s) (row (20 + s)) (nI t) = some (nI (r t))) :
    ∀ (n t : Nat) (bb mm mb mg : Int32), t ≤ 2 ^ np → 2 ^ np - t < n → ((bb = 0 ∧ mm = -1 ∧ mb = -4 ∧ mg = -1 ∧ ∀ t', t' < t → popc t' ≠ k) ∨ (∃ b, b < t ∧ popc b = k ∧ bb = nI b ∧ mm = nI (r b) ∧ mb = nI b ∧ mg = nI (r b))) →
    ∃ o o', fX1_bestCrew_L9 N (nI s) (nI k) people kind weight minute juice fors n bb mm (nI t) = some o ∧ fX8_crew_L42 N (nI s) (nI k) x3 row n mb mg (nI t) = some o' ∧ ((o'.1 = -4 ∧ ∀ t', t' < 2 ^ np → popc t' ≠ k) ∨ (∃ b, b < 2 ^ np ∧ popc b = k ∧ o.1 = nI b ∧ o'.1 = nI b ∧ o'.2.1 = nI (r b))) := by
  have h64 := pow6 h6
  have hpos : 0 < 2 ^ np := Nat.pos_of_ne_zero (by simp)
  intro n
  induction n with
  | zero => intro t bb mm mb mg h1 h2; omega
  | succ n ih =>
    intro t bb mm mb mg h1 h2 hI
    rw [fX1_bestCrew_L9, fX8_crew_L42, hp, c_all N h6, bnd_s, m_all N h6 e27, bnd_s]
    by_cases he : t = 2 ^ np
    · have q : nI (2 ^ np - 1) < nI t := (nlt (by omega) (by omega)).mpr (by omega)
      refine ⟨_, _, if_pos q, if_pos q, ?_⟩
      rcases hI with ⟨a1, a2, a3, a4, a5⟩ | ⟨b, b1, bk, b2, b3, b4, b5⟩
      · exact Or.inl ⟨a3, fun t' ht' => a5 t' (by omega)⟩
      · exact Or.inr ⟨b, by omega, bk, b2, b4, b5⟩
    · have q : ¬ nI (2 ^ np - 1) < nI t := fun z => by have := (nlt (by omega) (by omega)).mp z; omega
      have ht : t < 2 ^ np := by omega
      have hrt := hr t ht
      have hpc := popc_le t
      rw [hp] at H1 ih
      rw [if_neg q, if_neg q, s_pop N t (by omega), bnd_s, m_bits N hN (by omega), bnd_s, H1 t ht, bnd_s, show (20 : Int32) + nI s = nI (20 + s) from nI_add 20 s, ixb_nI (by omega), H2 t ht, bnd_s, n_s1]
      by_cases qk : popc t = k
      · have qk' : nI (popc t) = nI k := by rw [qk]
        rw [if_pos qk', if_pos qk']
        rcases hI with ⟨rfl, rfl, rfl, rfl, a5⟩ | ⟨b, b1, bk, rfl, rfl, rfl, rfl⟩
        · rw [if_neg (n_nm1 (by omega)), if_neg (n_nm1 (by omega)), if_neg (n_nm1 (by omega))]
          exact ih (t + 1) _ _ _ _ (by omega) (by omega) (Or.inr ⟨t, by omega, qk, rfl, rfl, rfl, rfl⟩)
        · have hrb := hr b (by omega)
          by_cases qr : r t ≤ r b
          · have qr' : nI (r t) ≤ nI (r b) := (nle (by omega) (by omega)).mpr qr
            rw [if_pos qr', if_pos qr', if_pos qr']
            exact ih (t + 1) _ _ _ _ (by omega) (by omega) (Or.inr ⟨b, by omega, bk, rfl, rfl, rfl, rfl⟩)
          · have qr' : ¬ nI (r t) ≤ nI (r b) := fun z => qr ((nle (by omega) (by omega)).mp z)
            rw [if_neg qr', if_neg qr', if_neg qr']
            exact ih (t + 1) _ _ _ _ (by omega) (by omega) (Or.inr ⟨t, by omega, qk, rfl, rfl, rfl, rfl⟩)
      · have qk' : ¬ nI (popc t) = nI k := fun z => qk ((neq (by omega) (by omega)).mp z)
        rw [if_neg qk', if_neg qk']
        rcases hI with ⟨rfl, rfl, rfl, rfl, a5⟩ | ⟨b, b1, bk, rfl, rfl, rfl, rfl⟩
        · have qm : (-1 : Int32) ≤ -1 := by decide
          rw [if_pos qm, if_pos qm]
          refine ih (t + 1) _ _ _ _ (by omega) (by omega) (Or.inl ⟨rfl, rfl, rfl, rfl, fun t' ht' => ?_⟩)
          by_cases qt : t' = t
          · rw [qt]; exact qk
          · exact a5 t' (by omega)
        · have hrb := hr b (by omega)
          have qm : (-1 : Int32) ≤ nI (r b) := m1_le (by omega)
          rw [if_pos qm, if_pos qm]
          exact ih (t + 1) _ _ _ _ (by omega) (by omega) (Or.inr ⟨b, by omega, bk, rfl, rfl, rfl, rfl⟩)
theorem popc_np : ∀ np, np ≤ 6 → ∀ t, t < 2 ^ np → popc t ≤ np := by
  have h : ∀ np, np < 7 → ∀ t, t < 64 → t < 2 ^ np → popc t ≤ np := by decide +kernel
  exact fun np h6 t ht => h np (by omega) t (Nat.lt_of_lt_of_le ht (pow6 h6)) ht
theorem popc_full : ∀ k, k ≤ 6 → popc (2 ^ k - 1) = k := by
  have h : ∀ k, k < 7 → popc (2 ^ k - 1) = k := by decide +kernel
  exact fun k hk => h k (by omega)
/-- the bundle that the foretelling of sets uses -/
theorem sim_crew (N : Nat) (hN : 1000 ≤ N) : Simcrew N Rel := by
  intro S M y0 y1 y2 hR
  obtain ⟨⟨c, m, k, h, hB, hC, hM⟩, hI, hT, hD, hZ⟩ := id hR
  have h6 := hB.1.2.1
  have h5 := hB.1.2.2.1
  have hmm := hB.2.1.2.1
  have e1 : S.1.2.1 = nI c.2.1 := hC.1.2.1
  have e2 : S.1.2.2.1 = nI c.2.2.1 := hC.1.2.2.1
  have e3 : S.1.2.2.2.2.2.2.2.1 = nI m.2.1 := hC.2.1.2.1
  have P := PR.of hB.1 hC.1
  have Q := QR.of hB.1 hM.1
  have SS := SR.of hB.1 hB.2.1 hC.2.1
  have TT := TR.of hB.1 hB.2.1 hM.1 (by omega) hM.2.1
  have h64 := pow6 h6
  unfold fX7_crew fX8_crew
  rw [e1, e2, e3, c_hasSaying N y0 (by omega), m_isSaying N y0 (by omega) hM.1.2.2.2.1, c_within, c_within, m_in32, m_in32]
  simp only [bnd_s, ite_b2i, L64, L32, decide_eq_true_eq]
  by_cases hy : 0 ≤ y0.toInt ∧ y0.toInt < c.2.2.1
  · rw [if_pos hy, if_pos hy]
    obtain ⟨s, hs, rfl⟩ := rng hy
    by_cases hk : 1 ≤ y1.toInt ∧ y1.toInt ≤ 6
    · rw [if_pos hk, if_pos hk]
      obtain ⟨kk, hk1, hk2, rfl⟩ := rngl (a := 1) (n := 6) hk
      by_cases hw : 0 ≤ y2.toInt ∧ y2.toInt ≤ 1
      · rw [if_pos hw, if_pos hw]
        obtain ⟨w, -, hw2, rfl⟩ := rngl (a := 0) (n := 1) hw
        have er : M.2.2.2.2.2.2.2.2.2.1 (20 + s) = nI (m.2.2.2.2.2 s) := by have := (hM.2.1.2.2.2.2 s hs).2; rwa [Nat.zero_add] at this
        have hf := (hB.2.1.2.2.2.2 s hs).2
        have H1 : ∀ t, t < 2 ^ c.2.1 → fX0_crewRocks N (nI c.2.1) S.1.2.2.2.2.1 S.1.2.2.2.2.2.1 (nI m.2.1) S.1.2.2.2.2.2.2.2.2.2.2.1 S.1.2.2.2.2.2.2.2.2.2.2.2 (nI s) (nI t) = some (nI (brk c.2.1 c.2.2.2.2.1 c.2.2.2.2.2 (m.2.2.2.2.1 s) (m.2.2.2.2.2 s) t (decide (m.2.1 % 2 = 0)))) := fun t ht => c_crew N hN P SS (by omega) hs (by omega)
        have H2 : ∀ t, t < 2 ^ c.2.1 → fX8_rockWith N M.2.2.2.2.2.2.2.2.2.1 (nI s) (M.2.2.2.2.2.2.2.2.2.1 (20 + s)) (nI t) = some (nI (brk c.2.1 c.2.2.2.2.1 c.2.2.2.2.2 (m.2.2.2.2.1 s) (m.2.2.2.2.2 s) t (decide (m.2.1 % 2 = 0)))) := fun t ht => by rw [er]; exact m_with N hN Q TT hM.2.1.2.1 (by omega) hs (by omega) ht
        obtain ⟨o, o', g1, g2, g3⟩ := crew_L N hN (x3 := nI w) h6 hk2 (by omega) (fun t ht => Nat.le_trans (brk_le h6 (fun q hq => (hB.1.2.2.2.2 q hq).2.2) (hB.2.1.2.2.2.2 s hs).1) (by omega)) rfl hM.1.2.2.1 H1 H2 N 0 0 (-1) (-4) (-1) (by omega) (by omega) (Or.inl ⟨rfl, rfl, rfl, rfl, fun t' ht' => absurd ht' (Nat.not_lt_zero _)⟩)
        unfold fX1_bestCrew
        rw [show fX8_crew_L42 N (nI s) (nI kk) (nI w) _ N (-4) (-1) 0 = _ from g2, bnd_s, show fX1_bestCrew_L9 N (nI s) (nI kk) (nI c.2.1) _ _ _ _ _ N 0 (-1) 0 = _ from g1, bnd_s, bnd_s]
        by_cases hkn : kk ≤ c.2.1
        · rw [if_pos ((nle (by omega) (by omega)).mpr hkn)]
          rcases g3 with ⟨a1, a2⟩ | ⟨b, b1, bk, b2, b3, b4⟩
          · have hlt : 2 ^ kk - 1 < 2 ^ c.2.1 := by have := Nat.pow_le_pow_right (n := 2) (by decide) hkn; have : 0 < 2 ^ kk := Nat.pos_of_ne_zero (by simp); omega
            exact absurd (popc_full kk hk2) (a2 _ hlt)
          · rw [b2, b3, b4, if_neg (n_ne4 (by omega)), H1 b b1, bnd_s]
            have hc : w = 0 ∨ w = 1 := by omega
            rcases hc with rfl | rfl
            · exact ⟨_, _, if_pos rfl, if_neg (by decide), rfl, hR⟩
            · exact ⟨_, _, if_neg (by decide), if_pos rfl, rfl, hR⟩
        · rw [if_neg (fun z => hkn ((nle (by omega) (by omega)).mp z))]
          rcases g3 with ⟨a1, a2⟩ | ⟨b, b1, bk, b2, b3, b4⟩
          · exact ⟨_, _, rfl, if_pos a1, a1.symm, hR⟩
          · exfalso
            -- found though too few: its size is k
            have := popc_np c.2.1 h6 b b1; omega
      · rw [if_neg hw, if_neg hw]; exact ⟨_, _, rfl, rfl, rfl, hR⟩
    · rw [if_neg hk, if_neg hk]; exact ⟨_, _, rfl, rfl, rfl, hR⟩
  · rw [if_neg hy, if_neg hy]; exact ⟨_, _, rfl, rfl, rfl, hR⟩
