/-! SIM film -/
theorem cut_small (N : Nat) {v : Nat} (hv : v ≤ 60) (lane : Int32) : fX8_cut N lane (nI v).toInt64 = some (nI v).toInt64 := by
  have h : ∀ v, v ≤ 60 → (nI v).toInt64.toInt32.toInt8.toInt32.toInt64 = (nI v).toInt64 ∧ (nI v).toInt64.toInt32.toInt16.toInt32.toInt64 = (nI v).toInt64 ∧ (nI v).toInt64.toInt32.toInt64 = (nI v).toInt64 := by decide +kernel
  obtain ⟨h1, h2, h3⟩ := h v hv
  unfold fX8_cut
  rw [h1, h2, h3]
  by_cases q0 : lane = 0
  · rw [if_pos q0]
  · rw [if_neg q0]
    by_cases q1 : lane = 1
    · rw [if_pos q1]
    · rw [if_neg q1]
      by_cases q2 : lane = 2
      · rw [if_pos q2]
      · rw [if_neg q2]
theorem film_L (N : Nat) {q n1 ce a : Nat} {ic : Nat → Nat} (hq : q < 4) (hn : n1 ≤ 12) (hce : ce + n1 ≤ 12) (ha : a + n1 ≤ 24) {x3 x4 x7 x7' x3' x4' : Int32} {ice row lanesq : Nat → Int32} (hi : ∀ j, j < ce + n1 → ice j = nI (ic j) ∧ row (3 + j) = nI (ic j) ∧ ic j ≤ 60) :
    ∀ (n x : Nat) (Zi : Nat → Nat → Int64) (it : Nat → Int64), x ≤ n1 → n1 - x < n → IT Zi it → ∃ o o', fX7_film_L76 N q (nI ce) (nI n1) x3 x4 (nI a) x7 ice lanesq n (nI x) Zi = some o ∧ fX8_film_L78 N (nI ce) (nI n1) (nI q) x4' (nI a) x7' row n (nI x) it = some o' ∧ IT o.2 o'.2 := by
  intro n
  induction n with
  | zero => intro x Zi it h1 h2; omega
  | succ n ih =>
    intro x Zi it h1 h2 h
    rw [fX7_film_L76, fX8_film_L78]
    by_cases he : x = n1
    · subst he
      have qq : nI x ≤ nI x := (nle (by omega) (by omega)).mpr (Nat.le_refl _)
      exact ⟨_, _, if_pos qq, if_pos qq, h⟩
    · have qq : ¬ nI n1 ≤ nI x := fun z => by have := (nle (by omega) (by omega)).mp z; omega
      have e : (24 : Int32) * nI q + nI a + nI x = nI (24 * q + (a + x)) := by rw [show (24 : Int32) = nI 24 from rfl, n_mul, nI_add, nI_add, Nat.add_assoc]
      have e3 : (3 : Int32) + nI ce + nI x = nI (3 + (ce + x)) := by rw [show (3 : Int32) = nI 3 from rfl, nI_add, nI_add, Nat.add_assoc]
      obtain ⟨i1, i2, i3⟩ := hi (ce + x) (by omega)
      obtain ⟨w, w1, w2⟩ := c_put N (show a + x < 24 by omega) (lanesq q) (Zi q) (nI (ic (ce + x))).toInt64
      rw [cut_small N i3] at w1
      injection w1 with w1
      subst w1
      rw [if_neg qq, if_neg qq, nI_add, ixb_nI (by omega), nI_add, i1, w2, bnd_s, e3, ixb_nI (by omega), e, ixb_nI (by omega), i2, n_s1]
      exact ih (x + 1) _ _ (by omega) (by omega) (it_upd h _ (by omega))
theorem sim_film (N : Nat) (hN : 1000 ≤ N) : Simfilm N Rel := by
  intro S M y0 y1 y2 y3 y4 hR
  obtain ⟨⟨c, m, k, h, hB, hC, hM⟩, hI, hT, hD, hZ⟩ := id hR
  have hRC : RC S.1 S.2.1 M.2.2.2.2.2.2.2.2.2.1 := hR.1
  have h12 := hB.1.1
  have e1 : S.1.1 = nI c.1 := hC.1.1
  have e26 := hM.1.2.1
  unfold fX7_film fX8_film
  rw [c_sheet, m_sheet, c_lane, m_lane, c_within, m_in32, m_isCell N y0 (by omega) e26, e26, show fX0_hasCell N S.1.1 y0 = some (b2i (decide (0 ≤ y0.toInt ∧ y0.toInt < c.1))) by rw [e1]; exact c_hasCell N y0 (by omega), e1]
  simp only [bnd_s, ite_b2i, decide_eq_true_eq]
  by_cases hy : 0 ≤ y0.toInt ∧ y0.toInt < c.1
  · rw [if_pos hy, if_pos hy]
    obtain ⟨ce, hce, rfl⟩ := rng hy
    rw [n_sub (by omega), tI (c.1 - ce), show (1 : Int32).toInt = 1 from by decide, show (1 : Int64).toInt = 1 from by decide, show (12 : Int64).toInt = 12 from by decide]
    by_cases hn : 1 ≤ y1.toInt ∧ y1.toInt ≤ ((c.1 - ce : Nat) : Int)
    · obtain ⟨n1, hn1, hn2, rfl⟩ := rngl (a := 1) (n := c.1 - ce) hn
      rw [if_pos hn, if_pos (show 1 ≤ (nI n1).toInt ∧ (nI n1).toInt ≤ 12 by rw [tI n1]; omega), nI_add, if_neg (show ¬ nI c.1 < nI (ce + n1) from fun z => by have := (nlt (by omega) (by omega)).mp z; omega)]
      by_cases hs : 0 ≤ y2.toInt ∧ y2.toInt < (4 : Nat)
      · rw [if_pos hs, if_pos hs]
        obtain ⟨q, hq, rfl⟩ := rng (n := 4) hs
        by_cases hl : 0 ≤ y3.toInt ∧ y3.toInt < (4 : Nat)
        · rw [if_pos hl, if_pos hl, ixb_nI hq]
          obtain ⟨v, v1, v2, v3⟩ := sheet_ref N hZ hq y3 y4 (nI n1)
          rw [v1, bnd_s, v2, bnd_s]
          by_cases h0 : v = 0
          · rw [if_pos h0, if_pos h0]
            obtain ⟨L, a, b, s1, s2, s3, rfl, s5, s6⟩ := v3 h0
            have hb : n1 = b := (neq (by omega) (by omega)).mp s5
            subst hb
            obtain ⟨o, o', g1, g2, g3⟩ := film_L N (q := q) (n1 := n1) (ce := ce) (a := a) (ic := m.2.2.2.1) hq (by omega) (by omega) (by omega) (x3 := nI q) (x4 := y3) (x4' := y3) (x7 := v) (x7' := v) (x3' := nI q) (lanesq := S.2.2.2.2.2.2.2.2.2.1) (ice := S.1.2.2.2.2.2.2.2.2.2.1) (row := M.2.2.2.2.2.2.2.2.2.1) (fun j hj => ⟨hC.2.1.2.2.2.1 j (by omega), by have := hM.2.1.2.2.2.1 j (by omega); rwa [Nat.zero_add] at this, hB.2.1.2.2.2.1 j (by omega)⟩) N 0 S.2.2.2.2.2.2.2.2.2.2.2 M.2.2.2.2.2.2.2.2.2.2.2.2.1 (by omega) (by omega) (it_of hZ)
            rw [show fX7_film_L76 N q (nI ce) (nI n1) _ _ (nI a) _ _ _ N 0 _ = _ from g1, bnd_s, show fX8_film_L78 N (nI ce) (nI n1) (nI q) _ (nI a) _ _ N 0 _ = _ from g2, bnd_s]
            exact ⟨_, _, rfl, rfl, rfl, hRC, hI, hT, hD, rsh_it hZ g3⟩
          · rw [if_neg h0, if_neg h0]; exact ⟨_, _, rfl, rfl, rfl, hR⟩
        · rw [if_neg hl, if_neg hl]; exact ⟨_, _, rfl, rfl, rfl, hR⟩
      · rw [if_neg hs, if_neg hs]; exact ⟨_, _, rfl, rfl, rfl, hR⟩
    · rw [if_neg hn]
      by_cases hn2 : 1 ≤ y1.toInt ∧ y1.toInt ≤ 12
      · obtain ⟨n1, hn1, hn3, rfl⟩ := rngl (a := 1) (n := 12) hn2
        rw [tI n1] at hn
        rw [if_pos hn2, nI_add, if_pos (show nI c.1 < nI (ce + n1) from (nlt (by omega) (by omega)).mpr (by omega))]
        exact ⟨_, _, rfl, rfl, rfl, hR⟩
      · rw [if_neg hn2]; exact ⟨_, _, rfl, rfl, rfl, hR⟩
  · rw [if_neg hy, if_neg hy]; exact ⟨_, _, rfl, rfl, rfl, hR⟩
/-! SIM copy -/
theorem held_L (N : Nat) {q a n1 : Nat} (hq : q < 4) (ha : a + n1 ≤ 24) {x3 x4 : Int32} {items : Nat → Int64} : ∀ (n x : Nat) (held : Nat → Int64), x ≤ n1 → n1 - x < n → (∀ k, k < x → held k = items (24 * q + a + k)) → ∃ o, fX8_copy_L84 N (nI q) (nI a) x3 x4 (nI n1) items n (nI x) held = some o ∧ ∀ k, k < n1 → o.2 k = items (24 * q + a + k) := by
  intro n
  induction n with
  | zero => intro x held h1 h2; omega
  | succ n ih =>
    intro x held h1 h2 h
    rw [fX8_copy_L84]
    by_cases he : x = n1
    · subst he
      exact ⟨_, if_pos ((nle (by omega) (by omega)).mpr (Nat.le_refl _)), h⟩
    · have qq : ¬ nI n1 ≤ nI x := fun z => by have := (nle (by omega) (by omega)).mp z; omega
      have e : (24 : Int32) * nI q + nI a + nI x = nI (24 * q + a + x) := by rw [show (24 : Int32) = nI 24 from rfl, n_mul, nI_add, nI_add]
      rw [if_neg qq, e, ixb_nI (by omega), ixb_nI (by omega), n_s1]
      refine ih (x + 1) _ (by omega) (by omega) (fun k hk => ?_)
      by_cases ek : k = x
      · subst ek; rw [updL_s]
      · rw [updL_n ek]; exact h k (by omega)
theorem laid_L (N : Nat) {q b n1 : Nat} (hq : q < 4) (hb : b + n1 ≤ 24) {x1 x2 : Int32} {items held : Nat → Int64} : ∀ (n x : Nat) (it : Nat → Int64), x ≤ n1 → n1 - x < n → (∀ p, it p = if 24 * q + b ≤ p ∧ p < 24 * q + b + x then held (p - (24 * q + b)) else items p) → ∃ o, fX8_copy_L121 N x1 x2 (nI q) (nI b) (nI n1) held n (nI x) it = some o ∧ ∀ p, o.2 p = if 24 * q + b ≤ p ∧ p < 24 * q + b + n1 then held (p - (24 * q + b)) else items p := by
  intro n
  induction n with
  | zero => intro x it h1 h2; omega
  | succ n ih =>
    intro x it h1 h2 h
    rw [fX8_copy_L121]
    by_cases he : x = n1
    · subst he
      exact ⟨_, if_pos ((nle (by omega) (by omega)).mpr (Nat.le_refl _)), h⟩
    · have qq : ¬ nI n1 ≤ nI x := fun z => by have := (nle (by omega) (by omega)).mp z; omega
      have e : (24 : Int32) * nI q + nI b + nI x = nI (24 * q + b + x) := by rw [show (24 : Int32) = nI 24 from rfl, n_mul, nI_add, nI_add]
      rw [if_neg qq, e, ixb_nI (by omega), ixb_nI (by omega), n_s1]
      refine ih (x + 1) _ (by omega) (by omega) (fun p => ?_)
      by_cases ep : p = 24 * q + b + x
      · subst ep; rw [updL_s, if_pos (by omega)]; congr 1; omega
      · rw [updL_n ep, h p]
        by_cases hp : 24 * q + b ≤ p ∧ p < 24 * q + b + x
        · rw [if_pos hp, if_pos (by omega)]
        · rw [if_neg hp, if_neg (by omega)]
theorem sim_copy (N : Nat) (hN : 1000 ≤ N) : Simcopy N Rel := by
  intro S M y0 y1 y2 y3 y4 hR
  obtain ⟨hRC, hI, hT, hD, hZ⟩ := id hR
  unfold fX7_copy fX8_copy fX5_isNothing
  rw [c_sheet, m_sheet, c_sheet, m_sheet]
  simp only [bnd_s, ite_b2i, decide_eq_true_eq]
  by_cases hy : 0 ≤ y0.toInt ∧ y0.toInt < (4 : Nat)
  · rw [if_pos hy, if_pos hy]
    obtain ⟨f, hf, rfl⟩ := rng (n := 4) hy
    by_cases ht : 0 ≤ y2.toInt ∧ y2.toInt < (4 : Nat)
    · rw [if_pos ht, if_pos ht]
      obtain ⟨t, ht2, rfl⟩ := rng (n := 4) ht
      obtain ⟨a1, a2, a3, a4, a5⟩ := hZ f hf
      obtain ⟨b1, b2, b3, b4, b5⟩ := hZ t ht2
      simp only [ixb_nI hf, ixb_nI ht2, a1, a2, b1, b2]
      rcases a4 with a4 | ⟨L, hL, a4⟩
      · rw [a4, if_neg (show ¬ (0 : Int32) ≤ -1 by decide), bnd_s, if_neg (show ¬ (1 : Int32) = 0 by decide), if_pos (show (-1 : Int32) < 0 by decide)]
        exact ⟨_, _, rfl, rfl, rfl, hR⟩
      · have hp : (0 : Int32) ≤ nI L := nI_pos' (by omega)
        rw [a4, if_pos hp, bnd_s, if_pos (show (0 : Int32) = 0 from rfl), if_neg (show ¬ nI L < 0 from nI_pos (by omega))]
        rcases b4 with b4 | ⟨L2, hL2, b4⟩
        · rw [b4, if_neg (show ¬ (0 : Int32) ≤ -1 by decide), bnd_s, if_neg (show ¬ (1 : Int32) = 0 by decide), if_neg (show ¬ (0 : Int32) ≤ -1 by decide)]
          exact ⟨_, _, rfl, rfl, rfl, hR⟩
        · have hp2 : (0 : Int32) ≤ nI L2 := nI_pos' (by omega)
          rw [b4, if_pos hp2, bnd_s, if_pos (show (0 : Int32) = 0 from rfl), if_pos hp2]
          by_cases hl : M.2.2.2.2.2.2.2.2.2.2.1 f = M.2.2.2.2.2.2.2.2.2.2.1 t
          · rw [if_pos hl, if_pos hl, c_holds N hL, bnd_s, ite_b2i, m_span N hf hL a4, bnd_s, ite_b2i, c_holds N hL2, bnd_s, ite_b2i, m_span N ht2 hL2 b4, bnd_s, ite_b2i]
            simp only [decide_eq_true_eq]
            by_cases h1 : 0 ≤ y1.toInt ∧ 0 ≤ y4.toInt ∧ y1.toInt + y4.toInt ≤ L
            · rw [if_pos h1, if_pos h1]
              by_cases h2 : 0 ≤ y3.toInt ∧ 0 ≤ y4.toInt ∧ y3.toInt + y4.toInt ≤ L2
              · rw [if_pos h2, if_pos h2]
                obtain ⟨i, hi, rfl⟩ := rng (x := y1) (n := 25) (by omega)
                obtain ⟨n1, hn1, rfl⟩ := rng (x := y4) (n := 25) (by omega)
                obtain ⟨j, hj, rfl⟩ := rng (x := y3) (n := 25) (by omega)
                rw [tI i, tI n1] at h1
                rw [tI j, tI n1] at h2
                obtain ⟨o1, g1, g2⟩ := held_L N hf (a := i) (n1 := n1) (by omega) (x3 := nI t) (x4 := nI j) (items := M.2.2.2.2.2.2.2.2.2.2.2.2.1) N 0 M.2.2.2.2.2.2.2.2.2.2.2.2.2.2.2.2.2.2.2.2 (by omega) (by omega) (fun k hk => absurd hk (Nat.not_lt_zero _))
                obtain ⟨o2, k1, k2⟩ := laid_L N ht2 (b := j) (n1 := n1) (by omega) (x1 := nI f) (x2 := nI i) (items := M.2.2.2.2.2.2.2.2.2.2.2.2.1) (held := o1.2) N 0 M.2.2.2.2.2.2.2.2.2.2.2.2.1 (by omega) (by omega) (fun p => (if_neg (by omega)).symm)
                rw [show fX8_copy_L84 N (nI f) (nI i) (nI t) (nI j) (nI n1) _ N 0 _ = _ from g1, bnd_s, show fX8_copy_L121 N (nI f) (nI i) (nI t) (nI j) (nI n1) _ N 0 _ = _ from k1, bnd_s, nI_clamp (by omega), nI_clamp (by omega), nI_clamp (by omega)]
                have hcp : cpB (nI i) (nI j) (nI n1) 24 24 = true := by
                  simp only [cpB, Bool.and_eq_true, Bool.not_eq_true', decide_eq_true_eq, decide_eq_false_iff_not]
                  rw [nI_clamp (by omega), nI_clamp (by omega), nI_clamp (by omega)]
                  exact ⟨nI_pos (by omega), nI_pos (by omega), nI_pos (by omega), by omega, by omega⟩
                unfold cpb
                rw [if_pos hcp]
                refine ⟨_, _, rfl, rfl, rfl, hRC, hI, hT, hD, rsh_it hZ (fun q' hq' p hp' => ?_)⟩
                show va_up S.2.2.2.2.2.2.2.2.2.2.2 t (va_cpy (S.2.2.2.2.2.2.2.2.2.2.2 f) (S.2.2.2.2.2.2.2.2.2.2.2 t) i j n1) q' p = o2.2 (24 * q' + p)
                rw [k2]
                by_cases e : q' = t
                · subst e
                  rw [va_up_eq]
                  by_cases hr : j ≤ p ∧ p < j + n1
                  · rw [pk_cpy_in hr.1 hr.2, if_pos (by omega), g2 _ (by omega), a5 _ (by omega)]
                    exact congrArg M.2.2.2.2.2.2.2.2.2.2.2.2.1 (by omega)
                  · rw [pk_cpy_out (by omega), if_neg (by omega)]; exact b5 p hp'
                · rw [va_up_n _ _ e, if_neg (by omega)]; exact (hZ q' hq').2.2.2.2 p hp'
              · rw [if_neg h2, if_neg h2]; exact ⟨_, _, rfl, rfl, rfl, hR⟩
            · rw [if_neg h1, if_neg h1]; exact ⟨_, _, rfl, rfl, rfl, hR⟩
          · rw [if_neg hl, if_neg hl]; exact ⟨_, _, rfl, rfl, rfl, hR⟩
    · rw [if_neg ht, if_neg ht]; exact ⟨_, _, rfl, rfl, rfl, hR⟩
  · rw [if_neg hy, if_neg hy]; exact ⟨_, _, rfl, rfl, rfl, hR⟩
