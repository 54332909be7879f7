/-! SIM sick, its sums -/
theorem c_ch_L (N : Nat) (hN : 1000 ≤ N) {np s c ah : Nat} {r : Nat → Nat} {cells people boat minute : Int32} {kind weight ice juice fors : Nat → Int32} (h6 : np ≤ 6) (hc : c ≤ 10) (ha : ah ≤ 60) (hr : ∀ t, t < 2 ^ np → r t ≤ 1000) (hp : people = nI np)
    (H1 : ∀ t, t < 2 ^ np → fX0_crewRocks N people kind weight minute juice fors (nI s) (nI t) = some (nI (r t))) (H2 : fX0_iceAhead N cells boat ice = some (nI ah)) :
    ∀ (n t : Nat), t ≤ 2 ^ np → 2 ^ np - t < n → ∃ o, fX1_chances_L5 N (nI s) (nI c) cells people kind weight boat minute ice juice fors n (nI (WA (fun t => decide (ah ≤ r t)) (fun t => wl c t np) t)) (nI t) = some o ∧ o.1 = nI (WA (fun t => decide (ah ≤ r t)) (fun t => wl c t np) (2 ^ np)) := by
  have h64 := pow6 h6
  have hpos : 0 < 2 ^ np := Nat.pos_of_ne_zero (by simp)
  intro n
  induction n with
  | zero => intro t h1 h2; omega
  | succ n ih =>
    intro t h1 h2
    rw [fX1_chances_L5, show fX0_everybody N people = some (nI (2 ^ np - 1)) by rw [hp]; exact c_all N h6, bnd_s]
    by_cases he : t = 2 ^ np
    · have q : nI (2 ^ np - 1) < nI t := (nlt (by omega) (by omega)).mpr (by omega)
      exact ⟨_, if_pos q, by rw [he]⟩
    · have q : ¬ nI (2 ^ np - 1) < nI t := fun z => by have := (nlt (by omega) (by omega)).mp z; omega
      have ht : t < 2 ^ np := by omega
      have hrt := hr t ht
      have hpn := popc_np np h6 t ht
      have i := ih (t + 1) (by omega) (by omega)
      have eu : WA (fun t => decide (ah ≤ r t)) (fun t => wl c t np) (t + 1) = WA (fun t => decide (ah ≤ r t)) (fun t => wl c t np) t + (if decide (ah ≤ r t) = true then wl c t np else 0) := rfl
      rw [if_neg q, H1 t ht, bnd_s, H2, bnd_s, s_pop N t (by omega), bnd_s, hp, n_sub hpn, show (10 : Int32) - nI c = nI (10 - c) from n_sub hc, c_power N hN (by omega), bnd_s, c_power N hN (by omega), bnd_s, n_mul, ← wl_eq c (by omega) np (by omega) t (by omega) ht, nI_add, n_s1]
      rw [hp] at i
      by_cases qr : ah ≤ r t
      · rw [eu, if_pos (by simpa using qr)] at i
        rw [if_neg (fun z => by have := (nlt (by omega) (by omega)).mp z; omega)]; exact i
      · rw [eu, if_neg (by simpa using qr), Nat.add_zero] at i
        rw [if_pos ((nlt (by omega) (by omega)).mpr (by omega))]; exact i
theorem m_ch_L (N : Nat) (hN : 1000 ≤ N) {np s c ah : Nat} {th : Bool} {r : Nat → Nat} {x3 : Int32} {row : Nat → Int32} (h6 : np ≤ 6) (hs : s < 5) (hc : c ≤ 10) (ha : ah ≤ 60) (hr : ∀ t, t < 2 ^ np → r t ≤ 1000) (e27 : row 27 = nI np)
    (H0 : fX8_isThrough N row 0 = some (b2i th)) (H1 : ∀ t, t < 2 ^ np → fX8_rockWith N row (nI s) (row (20 + s)) (nI t) = some (nI (r t))) (H2 : fX8_iceAhead N row 0 = some (nI ah)) :
    ∀ (n t : Nat), t ≤ 2 ^ np → 2 ^ np - t < n → ∃ o, fX8_sick_L41 N (nI s) (nI c) x3 row n (nI (WA (fun t => !th && decide (ah ≤ r t)) (fun t => wl c t np) t)) (nI (WA (fun _ => true) (fun t => wl c t np) t)) (nI t) = some o ∧ o.1 = nI (WA (fun t => !th && decide (ah ≤ r t)) (fun t => wl c t np) (2 ^ np)) ∧ o.2.1 = nI (WA (fun _ => true) (fun t => wl c t np) (2 ^ np)) := by
  have h64 := pow6 h6
  have hpos : 0 < 2 ^ np := Nat.pos_of_ne_zero (by simp)
  intro n
  induction n with
  | zero => intro t h1 h2; omega
  | succ n ih =>
    intro t h1 h2
    rw [fX8_sick_L41, m_all N h6 e27, bnd_s]
    by_cases he : t = 2 ^ np
    · have q : nI (2 ^ np - 1) < nI t := (nlt (by omega) (by omega)).mpr (by omega)
      exact ⟨_, if_pos q, by rw [he], by rw [he]⟩
    · have q : ¬ nI (2 ^ np - 1) < nI t := fun z => by have := (nlt (by omega) (by omega)).mp z; omega
      have ht : t < 2 ^ np := by omega
      have hrt := hr t ht
      have i := ih (t + 1) (by omega) (by omega)
      have eu : WA (fun t => !th && decide (ah ≤ r t)) (fun t => wl c t np) (t + 1) = WA (fun t => !th && decide (ah ≤ r t)) (fun t => wl c t np) t + (if (!th && decide (ah ≤ r t)) = true then wl c t np else 0) := rfl
      have ev : WA (fun _ => true) (fun t => wl c t np) (t + 1) = WA (fun _ => true) (fun t => wl c t np) t + wl c t np := rfl
      have w := m_ways_L N (x1 := nI s) (x3 := x3) (x4 := nI (WA (fun t => !th && decide (ah ≤ r t)) (fun t => wl c t np) t)) (x5 := nI (WA (fun _ => true) (fun t => wl c t np) t)) h6 hc (show t < 64 by omega) e27 N 0 (by omega) (by omega)
      rw [show nI (wl c t 0) = 1 from rfl, show (nI 0 : Int32) = 0 from rfl] at w
      rw [if_neg q, w, bnd_s, H0, bnd_s, ite_b2i, show (20 : Int32) + nI s = nI (20 + s) from nI_add 20 s, ixb_nI (by omega), H1 t ht, bnd_s, H2, bnd_s, n_s1, nI_add, nI_add, show ∀ v : Nat, nI v + 0 = nI v from fun v => nI_add v 0]
      rw [eu, ev] at i
      cases th
      · rw [if_neg (by decide)]
        by_cases qr : ah ≤ r t
        · rw [if_pos (by simpa using qr)] at i
          rw [if_neg (fun z => by have := (nlt (by omega) (by omega)).mp z; omega)]; exact i
        · rw [if_neg (by simpa using qr), Nat.add_zero] at i
          rw [if_pos ((nlt (by omega) (by omega)).mpr (by omega))]; exact i
      · rw [if_pos rfl]
        rw [if_neg (by simp), Nat.add_zero] at i
        exact i
theorem WA_false {w : Nat → Nat} {P : Nat → Bool} (h : ∀ t, P t = false) : ∀ t, WA P w t = 0
  | 0 => rfl
  | t + 1 => by
    show WA P w t + (if P t then w t else 0) = 0
    rw [WA_false h t, h t]; rfl
theorem sim_sick (N : Nat) (hN : 1000 ≤ N) : Simsick N Rel := by
  intro S M y0 y1 y2 hR
  obtain ⟨⟨c, m, k, h, hB, hC, hM⟩, hI, hT, hD, hZ⟩ := id hR
  have h12 := hB.1.1
  have h6 := hB.1.2.1
  have h5 := hB.1.2.2.1
  have h64 := pow6 h6
  have hmm := hB.2.1.2.1
  have e0 : S.1.1 = nI c.1 := hC.1.1
  have e1 : S.1.2.1 = nI c.2.1 := hC.1.2.1
  have e2 : S.1.2.2.1 = nI c.2.2.1 := hC.1.2.2.1
  have e3 : S.1.2.2.2.2.2.2.2.1 = nI m.2.1 := hC.2.1.2.1
  have e4 : S.1.2.2.2.2.2.2.1 = nI m.1 := hC.2.1.1
  have P := PR.of hB.1 hC.1
  have Q := QR.of hB.1 hM.1
  have SS := SR.of hB.1 hB.2.1 hC.2.1
  have TT := TR.of hB.1 hB.2.1 hM.1 (by omega) hM.2.1
  have thr := m_thr N h12 hB.2.1.1 (show 0 ≤ 484 by omega) hM.2.1.1 hM.1.2.1
  have ea : fX0_iceAhead N (nI c.1) (nI m.1) S.1.2.2.2.2.2.2.2.2.2.1 = some (nI (aAh c.1 m)) := by rw [← e4]; exact c_ahead N h12 hB.2.1 hC.2.1
  have em := m_ahead N h12 (by omega) hB.2.1 hM.1.2.1 hM.2.1
  rw [show (nI 0 : Int32) = 0 from rfl] at thr em
  unfold fX7_sick fX8_sick
  rw [e0, e1, e2, e3, e4, c_hasSaying N y0 (by omega), m_isSaying N y0 (by omega) hM.1.2.2.2.1, c_within, c_within, m_in32, m_in32]
  simp only [bnd_s, ite_b2i, L64, L32, decide_eq_true_eq]
  by_cases hy : 0 ≤ y0.toInt ∧ y0.toInt < c.2.2.1
  · rw [if_pos hy, if_pos hy]
    obtain ⟨s, hs, rfl⟩ := rng hy
    by_cases hk : 0 ≤ y1.toInt ∧ y1.toInt ≤ 10
    · rw [if_pos hk, if_pos hk]
      obtain ⟨v, -, hv, rfl⟩ := rngl (a := 0) (n := 10) hk
      by_cases hw : 0 ≤ y2.toInt ∧ y2.toInt ≤ 1
      · rw [if_pos hw, if_pos hw]
        have er : M.2.2.2.2.2.2.2.2.2.1 (20 + s) = nI (m.2.2.2.2.2 s) := by have := (hM.2.1.2.2.2.2 s hs).2; rwa [Nat.zero_add] at this
        have hf := (hB.2.1.2.2.2.2 s hs).2
        have H1 : ∀ t, t < 2 ^ c.2.1 → fX0_crewRocks N (nI c.2.1) S.1.2.2.2.2.1 S.1.2.2.2.2.2.1 (nI m.2.1) S.1.2.2.2.2.2.2.2.2.2.2.1 S.1.2.2.2.2.2.2.2.2.2.2.2 (nI s) (nI t) = some (nI (brk c.2.1 c.2.2.2.2.1 c.2.2.2.2.2 (m.2.2.2.2.1 s) (m.2.2.2.2.2 s) t (decide (m.2.1 % 2 = 0)))) := fun t ht => c_crew N hN P SS (by omega) hs (by omega)
        have H2 : ∀ t, t < 2 ^ c.2.1 → fX8_rockWith N M.2.2.2.2.2.2.2.2.2.1 (nI s) (M.2.2.2.2.2.2.2.2.2.1 (20 + s)) (nI t) = some (nI (brk c.2.1 c.2.2.2.2.1 c.2.2.2.2.2 (m.2.2.2.2.1 s) (m.2.2.2.2.2 s) t (decide (m.2.1 % 2 = 0)))) := fun t ht => by rw [er]; exact m_with N hN Q TT hM.2.1.2.1 (by omega) hs (by omega) ht
        have H3 : ∀ t, t < 2 ^ c.2.1 → brk c.2.1 c.2.2.2.2.1 c.2.2.2.2.2 (m.2.2.2.2.1 s) (m.2.2.2.2.2 s) t (decide (m.2.1 % 2 = 0)) ≤ 1000 := fun t ht => Nat.le_trans (brk_le h6 (fun q hq => (hB.1.2.2.2.2 q hq).2.2) (hB.2.1.2.2.2.2 s hs).1) (by omega)
        obtain ⟨oc, c1, c2⟩ := c_ch_L N hN (s := s) (c := v) h6 hv (aAh_le hB.2.1) H3 rfl H1 ea N 0 (Nat.zero_le _) (by omega)
        obtain ⟨om, m1, m2, m3⟩ := m_ch_L N hN (s := s) (c := v) (x3 := y2) h6 (by omega) hv (aAh_le hB.2.1) H3 hM.1.2.2.1 thr H2 em N 0 (Nat.zero_le _) (by omega)
        rw [wl_sum v (by omega) c.2.1 (by omega)] at m3
        -- above
        have cut : ∀ A x4, A ≤ 10 ^ c.2.1 → ∃ a b, fX1_likelihood_L37 N (nI s) (nI v) x4 (nI c.2.1) N (nI A) (nI (10 ^ c.2.1)) 0 = some (nI a, nI b, nI c.2.1) ∧ 0 < Nat.gcd A (10 ^ c.2.1) ∧ A / Nat.gcd A (10 ^ c.2.1) = a ∧ 10 ^ c.2.1 / Nat.gcd A (10 ^ c.2.1) = b := by
          intro A x4 hA
          have h10 : 10 ^ c.2.1 ≤ 10 ^ 6 := Nat.pow_le_pow_right (by decide) h6
          obtain ⟨a, b, q1, q2⟩ := c_cut_L N (A := A) (x2 := nI s) (x3 := nI v) (x4 := x4) h6 (by omega) N 0 A (10 ^ c.2.1) (by omega) (by omega) (by omega) ⟨c.2.1, c.2.1, 1, by rw [← Nat.mul_pow], Nat.mul_one _, Nat.mul_one _, Or.inl rfl, Or.inl rfl⟩
          exact ⟨a, b, q1, cut_end q2⟩
        have lik : ∀ x4, ∃ a b A : Nat, A ≤ 10 ^ c.2.1 ∧ om.1 = nI A ∧ 0 < Nat.gcd A (10 ^ c.2.1) ∧ A / Nat.gcd A (10 ^ c.2.1) = a ∧ 10 ^ c.2.1 / Nat.gcd A (10 ^ c.2.1) = b ∧ fX1_likelihood N (nI c.1) (nI c.2.1) S.1.2.2.2.2.1 S.1.2.2.2.2.2.1 (nI m.1) (nI m.2.1) S.1.2.2.2.2.2.2.2.2.2.1 S.1.2.2.2.2.2.2.2.2.2.2.1 S.1.2.2.2.2.2.2.2.2.2.2.2 (nI s) (nI v) x4 = if x4 = 0 then some (nI b) else some (nI a) := by
          intro x4
          have p10 : fX1_power N 10 (nI c.2.1) = some (nI (10 ^ c.2.1)) := c_power N hN (b := 10) h6
          unfold fX1_likelihood fX1_chances
          rw [c_thr N h12 hB.2.1.1, p10, show fX1_chances_L5 N (nI s) (nI v) (nI c.1) (nI c.2.1) _ _ _ _ _ _ _ N 0 0 = _ from c1]
          simp only [bnd_s, ite_b2i, c2, decide_eq_true_eq]
          by_cases ht : c.1 ≤ m.1
          · have em0 : om.1 = nI 0 := by rw [m2, WA_false (fun t => by simp [ht])]
            obtain ⟨a, b, q1, q2, q3, q4⟩ := cut 0 x4 (Nat.zero_le _)
            refine ⟨a, b, 0, Nat.zero_le _, em0, q2, q3, q4, ?_⟩
            rw [if_pos ht, show (0 : Int32) = nI 0 from rfl]
            rw [show fX1_likelihood_L37 N (nI s) (nI v) x4 (nI c.2.1) N (nI 0) (nI (10 ^ c.2.1)) (nI 0) = _ from q1, bnd_s]
          · have eA : (fun t => !decide (c.1 ≤ m.1) && decide (aAh c.1 m ≤ brk c.2.1 c.2.2.2.2.1 c.2.2.2.2.2 (m.2.2.2.2.1 s) (m.2.2.2.2.2 s) t (decide (m.2.1 % 2 = 0)))) = (fun t => decide (aAh c.1 m ≤ brk c.2.1 c.2.2.2.2.1 c.2.2.2.2.2 (m.2.2.2.2.1 s) (m.2.2.2.2.2 s) t (decide (m.2.1 % 2 = 0)))) := by funext t; simp [ht]
            have hle := WA_le (fun t => decide (aAh c.1 m ≤ brk c.2.1 c.2.2.2.2.1 c.2.2.2.2.2 (m.2.2.2.2.1 s) (m.2.2.2.2.2 s) t (decide (m.2.1 % 2 = 0)))) (fun t => wl v t c.2.1) (2 ^ c.2.1)
            rw [wl_sum v (by omega) c.2.1 (by omega)] at hle
            obtain ⟨a, b, q1, q2, q3, q4⟩ := cut _ x4 hle
            refine ⟨a, b, _, hle, by rw [m2, eA], q2, q3, q4, ?_⟩
            rw [if_neg ht, q1, bnd_s]
        rw [show fX8_sick_L41 N (nI s) (nI v) y2 _ N 0 0 0 = _ from m1, bnd_s, m3]
        by_cases q : y2 = 0
        · obtain ⟨a, b, A, l1, l2, l3, l4, l5, l6⟩ := lik 1
          have h10 : 10 ^ c.2.1 ≤ 10 ^ 6 := Nat.pow_le_pow_right (by decide) h6
          have hg : Nat.gcd A (10 ^ c.2.1) ≤ 10 ^ c.2.1 := Nat.gcd_le_right _ (Nat.pos_of_ne_zero (by simp))
          rw [l2, m_gcd_L N 30 N A (10 ^ c.2.1) (by omega) (by omega) (by omega) (by omega), bnd_s, if_pos q, if_pos q, l6, if_neg (by decide), bnd_s]
          unfold dvb
          rw [if_neg (show ¬ nI (Nat.gcd A (10 ^ c.2.1)) = 0 from fun z => by have := (neq (b := 0) (by omega) (by omega)).mp z; omega), n_div (by omega) l3 (by omega), l4]
          exact ⟨_, _, rfl, rfl, rfl, hR⟩
        · obtain ⟨a, b, A, l1, l2, l3, l4, l5, l6⟩ := lik 0
          have h10 : 10 ^ c.2.1 ≤ 10 ^ 6 := Nat.pow_le_pow_right (by decide) h6
          have hg : Nat.gcd A (10 ^ c.2.1) ≤ 10 ^ c.2.1 := Nat.gcd_le_right _ (Nat.pos_of_ne_zero (by simp))
          rw [l2, m_gcd_L N 30 N A (10 ^ c.2.1) (by omega) (by omega) (by omega) (by omega), bnd_s, if_neg q, if_neg q, l6, if_pos rfl, bnd_s]
          unfold dvb
          rw [if_neg (show ¬ nI (Nat.gcd A (10 ^ c.2.1)) = 0 from fun z => by have := (neq (b := 0) (by omega) (by omega)).mp z; omega), n_div (by omega) l3 (by omega), l5]
          exact ⟨_, _, rfl, rfl, rfl, hR⟩
      · rw [if_neg hw, if_neg hw]; exact ⟨_, _, rfl, rfl, rfl, hR⟩
    · rw [if_neg hk, if_neg hk]; exact ⟨_, _, rfl, rfl, rfl, hR⟩
  · rw [if_neg hy, if_neg hy]; exact ⟨_, _, rfl, rfl, rfl, hR⟩
