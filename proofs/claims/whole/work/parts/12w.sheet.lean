/-! PURE: sheets -/
theorem c_sheet (N : Nat) (x : Int32) : fX7_isSheet N x = some (b2i (decide (0 ≤ x.toInt ∧ x.toInt < (4 : Nat)))) := by
  unfold fX7_isSheet
  rw [c_within, bnd_s, zb_b]
  congr 3
  apply propext
  rw [L32.1, L32.2.2.2.2.2.2.2.2.2.2.2.1]
  constructor <;> intro h <;> omega
theorem c_lane (N : Nat) (x : Int32) : fX7_isLane N x = some (b2i (decide (0 ≤ x.toInt ∧ x.toInt < (4 : Nat)))) := c_sheet N x
theorem m_lane (N : Nat) (x : Int32) : fX8_in N x.toInt64 0 3 = some (b2i (decide (0 ≤ x.toInt ∧ x.toInt < (4 : Nat)))) := by
  rw [m_in32]
  congr 3
  apply propext
  rw [show (0 : Int64).toInt = 0 from rfl, show (3 : Int64).toInt = 3 by decide]
  constructor <;> intro h <;> omega
theorem m_sheet (N : Nat) (x : Int32) : fX8_isSheet N x = some (b2i (decide (0 ≤ x.toInt ∧ x.toInt < (4 : Nat)))) := by
  unfold fX8_isSheet
  rw [m_lane, bnd_s, zb_b]
theorem c_holds (N : Nat) {L : Nat} (hL : L ≤ 24) (i n : Int32) : fX5_holds N (nI L) i n = some (b2i (decide (0 ≤ i.toInt ∧ 0 ≤ n.toInt ∧ i.toInt + n.toInt ≤ L))) := by
  unfold fX5_holds
  simp only [Int32.lt_iff_toInt_lt, show (0 : Int32).toInt = 0 from rfl]
  by_cases h1 : i.toInt < 0
  · rw [if_pos h1, show decide (0 ≤ i.toInt ∧ 0 ≤ n.toInt ∧ i.toInt + n.toInt ≤ L) = false by simp; omega]; rfl
  · rw [if_neg h1]
    by_cases h2 : n.toInt < 0
    · rw [if_pos h2, show decide (0 ≤ i.toInt ∧ 0 ≤ n.toInt ∧ i.toInt + n.toInt ≤ L) = false by simp; omega]; rfl
    · rw [if_neg h2]
      obtain ⟨a, ha, rfl⟩ := nI_of (x := n) (by rw [Int32.lt_iff_toInt_lt]; exact h2)
      have e : (nI L - nI a).toInt = (L : Int) - a := by
        rw [Int32.toInt_sub, tI L, tI a, Int.bmod_eq_of_le] <;> omega
      rw [e, tI a]
      by_cases h3 : (L : Int) - a < i.toInt
      · rw [if_pos h3, show decide (0 ≤ i.toInt ∧ 0 ≤ (a : Int) ∧ i.toInt + a ≤ L) = false by simp; omega]; rfl
      · rw [if_neg h3, show decide (0 ≤ i.toInt ∧ 0 ≤ (a : Int) ∧ i.toInt + a ≤ L) = true by simp; omega]; rfl
theorem lg_cmp_pos (a b : Int64) : 0 < lg_cmp a b ↔ b.toInt < a.toInt := by
  unfold lg_cmp
  by_cases h : a > b
  · rw [if_pos h]
    have : b.toInt < a.toInt := Int64.lt_iff_toInt_lt.mp h
    exact ⟨fun _ => this, fun _ => by decide⟩
  · rw [if_neg h]
    have hn : ¬ b.toInt < a.toInt := fun z => h (Int64.lt_iff_toInt_lt.mpr z)
    constructor
    · intro z; exfalso; revert z; split <;> decide
    · intro z; exact absurd z hn
theorem m_span (N : Nat) {L q : Nat} {sizes : Nat → Int32} (hq : q < 4) (hL : L ≤ 24) (e : sizes q = nI L) (i n : Int32) : fX8_isSpan N sizes (nI q) i n = some (b2i (decide (0 ≤ i.toInt ∧ 0 ≤ n.toInt ∧ i.toInt + n.toInt ≤ L))) := by
  unfold fX8_isSpan
  simp only [Int32.lt_iff_toInt_lt, show (0 : Int32).toInt = 0 from rfl]
  by_cases h1 : i.toInt < 0
  · rw [if_pos h1, show decide (0 ≤ i.toInt ∧ 0 ≤ n.toInt ∧ i.toInt + n.toInt ≤ L) = false by simp; omega]; rfl
  · rw [if_neg h1]
    by_cases h2 : n.toInt < 0
    · rw [if_pos h2, show decide (0 ≤ i.toInt ∧ 0 ≤ n.toInt ∧ i.toInt + n.toInt ≤ L) = false by simp; omega]; rfl
    · rw [if_neg h2, ixb_nI hq, e]
      have b1 := i.toInt_lt
      have b2 := n.toInt_lt
      have es : (i.toInt64 + n.toInt64).toInt = i.toInt + n.toInt := by
        rw [Int64.toInt_add, Int32.toInt_toInt64, Int32.toInt_toInt64, Int.bmod_eq_of_le] <;> omega
      have key := lg_cmp_pos (i.toInt64 + n.toInt64) (nI L).toInt64
      rw [es, Int32.toInt_toInt64, tI L, Int32.lt_iff_toInt_lt, show (0 : Int32).toInt = 0 from rfl] at key
      by_cases h3 : (L : Int) < i.toInt + n.toInt
      · rw [if_pos (key.mpr h3), show decide (0 ≤ i.toInt ∧ 0 ≤ n.toInt ∧ i.toInt + n.toInt ≤ L) = false by simp; omega]; rfl
      · rw [if_neg (fun z => h3 (key.mp z)), show decide (0 ≤ i.toInt ∧ 0 ≤ n.toInt ∧ i.toInt + n.toInt ≤ L) = true by simp; omega]; rfl
theorem sheet_ref (N : Nat) {Z : BV_sheets} {lanes sizes : Nat → Int32} {items : Nat → Int64} (hZ : RSh Z lanes sizes items) {q : Nat} (hq : q < 4) (lane i n : Int32) : ∃ v, fX5_refusal N (Z.1 q) (Z.2.1 q) lane i n = some v ∧ fX8_noSheet N lanes sizes (nI q) lane i n = some v ∧ (v = 0 → ∃ L a b : Nat, sizes q = nI L ∧ L ≤ 24 ∧ lanes q = lane ∧ i = nI a ∧ n = nI b ∧ a + b ≤ L) := by
  obtain ⟨z1, z2, z3, z4, z5⟩ := hZ q hq
  unfold fX5_refusal fX8_noSheet fX5_isNothing
  rw [z1, z2, ixb_nI hq, ixb_nI hq]
  rcases z4 with z4 | ⟨L, hL, z4⟩
  · rw [z4, if_neg (show ¬ (0 : Int32) ≤ -1 by decide), if_neg (show ¬ (0 : Int32) ≤ -1 by decide), bnd_s, if_neg (by decide)]
    exact ⟨_, rfl, rfl, fun z => absurd z (by decide)⟩
  · have hp : (0 : Int32) ≤ nI L := nI_pos' (by omega)
    rw [z4, if_pos hp, if_pos hp, bnd_s, if_pos rfl, c_holds N hL, bnd_s, ite_b2i, m_span N hq hL z4, bnd_s, ite_b2i]
    by_cases h1 : lanes q = lane
    · rw [if_pos h1]
      by_cases h2 : 0 ≤ i.toInt ∧ 0 ≤ n.toInt ∧ i.toInt + n.toInt ≤ L
      · rw [if_pos (by simpa using h2)]
        refine ⟨_, rfl, rfl, fun _ => ?_⟩
        obtain ⟨a, ha, ea⟩ := rng (x := i) (n := 25) (by omega)
        obtain ⟨b, hb, eb⟩ := rng (x := n) (n := 25) (by omega)
        refine ⟨L, a, b, rfl, hL, h1, ea, eb, ?_⟩
        have := h2.2.2
        rw [ea, eb, tI a, tI b] at this
        omega
      · rw [if_neg (by simpa using h2)]
        exact ⟨_, rfl, rfl, fun z => absurd z (by decide)⟩
    · rw [if_neg h1]
      exact ⟨_, rfl, rfl, fun z => absurd z (by decide)⟩
def IT (Zi : Nat → Nat → Int64) (it : Nat → Int64) : Prop := ∀ q, q < 4 → ∀ j, j < 24 → Zi q j = it (24 * q + j)
theorem it_upd {Zi : Nat → Nat → Int64} {it : Nat → Int64} (h : IT Zi it) {q i : Nat} (v : Int64) (hi : i < 24) : IT (va_up Zi q (vp_updL (Zi q) i v)) (vp_updL it (24 * q + i) v) := by
  intro q' hq' j hj
  by_cases e : q' = q
  · subst e
    rw [va_up_eq]
    by_cases ej : j = i
    · subst ej; rw [updL_s, updL_s]
    · rw [updL_n ej, updL_n (by omega)]; exact h q' hq' j hj
  · rw [va_up_n _ _ e, updL_n (by omega)]; exact h q' hq' j hj
theorem rsh_it {Z : BV_sheets} {lanes sizes : Nat → Int32} {items it' : Nat → Int64} {Zi' : Nat → Nat → Int64} (hZ : RSh Z lanes sizes items) (h : IT Zi' it') : RSh (Z.1, Z.2.1, Zi') lanes sizes it' := fun q hq => ⟨(hZ q hq).1, (hZ q hq).2.1, (hZ q hq).2.2.1, (hZ q hq).2.2.2.1, h q hq⟩
theorem it_of {Z : BV_sheets} {lanes sizes : Nat → Int32} {items : Nat → Int64} (hZ : RSh Z lanes sizes items) : IT Z.2.2 items := fun q hq => (hZ q hq).2.2.2.2
/-! SIM drop -/
theorem sim_drop (N : Nat) : Simdrop N Rel := by
  intro S M y0 hR
  obtain ⟨hRC, hI, hT, hD, hZ⟩ := id hR
  unfold fX7_drop fX8_drop fX5_isNothing fX5_end
  rw [c_sheet, m_sheet, bnd_s, bnd_s, ite_b2i, ite_b2i]
  simp only [decide_eq_true_eq]
  by_cases hy : 0 ≤ y0.toInt ∧ y0.toInt < (4 : Nat)
  · rw [if_pos hy, if_pos hy]
    obtain ⟨q, hq, rfl⟩ := rng (n := 4) hy
    obtain ⟨z1, z2, z3, z4, z5⟩ := hZ q hq
    simp only [ixb_nI hq, z2]
    rcases z4 with z4 | ⟨L, hL, z4⟩
    · rw [z4, if_neg (show ¬ (0 : Int32) ≤ -1 by decide), if_neg (show ¬ (0 : Int32) ≤ -1 by decide), bnd_s, if_neg (by decide)]
      exact ⟨_, _, rfl, rfl, rfl, hR⟩
    · have hp : (0 : Int32) ≤ nI L := nI_pos' (by omega)
      rw [z4, if_pos hp, if_pos hp, bnd_s, if_pos rfl, bnd_s]
      refine ⟨_, _, rfl, rfl, rfl, hRC, hI, hT, hD, fun q' hq' => ?_⟩
      obtain ⟨w1, w2, w3, w4, w5⟩ := hZ q' hq'
      refine ⟨w1, ?_, w3, ?_, w5⟩
      · show va_up _ q (-1) q' = upd _ q (-1) q'
        by_cases e : q' = q
        · subst e; rw [va_up_eq, upd_s]
        · rw [va_up_n _ _ e, upd_n e]; exact w2
      · show upd _ q (-1) q' = -1 ∨ ∃ n : Nat, n ≤ 24 ∧ upd _ q (-1) q' = nI n
        by_cases e : q' = q
        · subst e; rw [upd_s]; exact Or.inl rfl
        · rw [upd_n e]; exact w4
  · rw [if_neg hy, if_neg hy]; exact ⟨_, _, rfl, rfl, rfl, hR⟩
/-! SIM sheet -/
theorem sheet_L (N : Nat) {q n1 : Nat} (hq : q < 4) (hn : n1 ≤ 24) {x1 x2 : Int32} {Zi : Nat → Nat → Int64} : ∀ (n x : Nat) (r it : Nat → Int64), x ≤ n1 → n1 - x < n → IT (va_up Zi q r) it → ∃ o o', fX5_begin_L12 N x1 (nI n1) n (nI x) r = some o ∧ fX8_sheet_L51 N (nI q) x2 (nI n1) n (nI x) it = some o' ∧ IT (va_up Zi q o.2) o'.2 := by
  intro n
  induction n with
  | zero => intro x r it h1 h2; omega
  | succ n ih =>
    intro x r it h1 h2 h
    rw [fX5_begin_L12, fX8_sheet_L51]
    by_cases he : x = n1
    · subst he
      have qq : nI x ≤ nI x := (nle (by omega) (by omega)).mpr (Nat.le_refl _)
      exact ⟨_, _, if_pos qq, if_pos qq, h⟩
    · have qq : ¬ nI n1 ≤ nI x := fun z => by have := (nle (by omega) (by omega)).mp z; omega
      have e : (24 : Int32) * nI q + nI x = nI (24 * q + x) := by rw [show (24 : Int32) = nI 24 from rfl, n_mul, nI_add]
      rw [if_neg qq, if_neg qq, ixb_nI (by omega), e, ixb_nI (by omega), n_s1]
      refine ih (x + 1) _ _ (by omega) (by omega) (fun q' hq' j hj => ?_)
      have hh := h q' hq' j hj
      by_cases eq : q' = q
      · subst eq
        rw [va_up_eq] at hh ⊢
        by_cases ej : j = x
        · subst ej; rw [updL_s, updL_s]
        · rw [updL_n ej, updL_n (by omega)]; exact hh
      · rw [va_up_n _ _ eq] at hh ⊢
        rw [updL_n (by omega)]; exact hh
theorem va_up_id {α : Type} (f : Nat → α) (k : Nat) : va_up f k (f k) = f := by
  funext j
  by_cases e : j = k
  · subst e; rw [va_up_eq]
  · rw [va_up_n _ _ e]
theorem sim_sheet (N : Nat) (hN : 1000 ≤ N) : Simsheet N Rel := by
  intro S M y0 y1 y2 hR
  obtain ⟨hRC, hI, hT, hD, hZ⟩ := id hR
  unfold fX7_sheet fX8_sheet fX5_begin
  rw [c_sheet, m_sheet, c_lane, m_lane]
  simp only [bnd_s, ite_b2i, decide_eq_true_eq]
  by_cases hy : 0 ≤ y0.toInt ∧ y0.toInt < (4 : Nat)
  · rw [if_pos hy, if_pos hy]
    obtain ⟨q, hq, rfl⟩ := rng (n := 4) hy
    by_cases hl : 0 ≤ y1.toInt ∧ y1.toInt < (4 : Nat)
    · rw [if_pos hl, if_pos hl]
      obtain ⟨l, hl2, rfl⟩ := rng (n := 4) hl
      by_cases h24 : y2 ≤ 24
      · rw [if_pos h24, if_pos h24]
        by_cases h0 : 0 ≤ y2
        · rw [if_pos h0, if_pos h0]
          obtain ⟨n1, hn1, -, rfl⟩ : ∃ k : Nat, k ≤ 24 ∧ True ∧ y2 = nI k := by
            have a1 := Int32.le_iff_toInt_le.mp h24
            have a2 := Int32.le_iff_toInt_le.mp h0
            rw [show (24 : Int32).toInt = 24 by decide] at a1
            rw [show (0 : Int32).toInt = 0 from rfl] at a2
            obtain ⟨k, k1, k2⟩ := rng (x := y2) (n := 25) (by omega)
            exact ⟨k, by omega, trivial, k2⟩
          obtain ⟨o, o', g1, g2, g3⟩ := sheet_L N hq hn1 (x1 := nI l) (x2 := nI l) (Zi := S.2.2.2.2.2.2.2.2.2.2.2) N 0 (S.2.2.2.2.2.2.2.2.2.2.2 q) _ (by omega) (by omega) (by rw [va_up_id]; exact it_of hZ)
          simp only [ixb_nI hq]
          rw [show fX5_begin_L12 N (nI l) (nI n1) N 0 _ = _ from g1, bnd_s, bnd_s, show fX8_sheet_L51 N (nI q) (nI l) (nI n1) N 0 _ = _ from g2, bnd_s]
          refine ⟨_, _, rfl, rfl, rfl, hRC, hI, hT, hD, fun q' hq' => ?_⟩
          obtain ⟨w1, w2, w3, w4, w5⟩ := hZ q' hq'
          show va_up _ q (nI l) q' = upd _ q (nI l) q' ∧ va_up _ q (nI n1) q' = upd _ q (nI n1) q' ∧ (∃ l' : Nat, l' < 4 ∧ upd _ q (nI l) q' = nI l') ∧ (upd _ q (nI n1) q' = -1 ∨ ∃ n : Nat, n ≤ 24 ∧ upd _ q (nI n1) q' = nI n) ∧ _
          by_cases e : q' = q
          · subst e
            simp only [va_up_eq, upd_s]
            exact ⟨trivial, trivial, ⟨l, hl2, rfl⟩, Or.inr ⟨n1, hn1, rfl⟩, fun j hj => g3 q' hq' j hj⟩
          · simp only [va_up_n _ _ e, upd_n e]
            exact ⟨w1, w2, w3, w4, fun j hj => g3 q' hq' j hj⟩
        · rw [if_neg h0, if_neg h0]; exact ⟨_, _, rfl, rfl, rfl, hR⟩
      · rw [if_neg h24, if_neg h24]; exact ⟨_, _, rfl, rfl, rfl, hR⟩
    · rw [if_neg hl, if_neg hl]; exact ⟨_, _, rfl, rfl, rfl, hR⟩
  · rw [if_neg hy, if_neg hy]; exact ⟨_, _, rfl, rfl, rfl, hR⟩
/-! SIM item -/
theorem c_put (N : Nat) {a : Nat} (ha : a < 24) (lane : Int32) (r : Nat → Int64) (v : Int64) : ∃ w, fX8_cut N lane v = some w ∧ fX5_put N lane r (nI a) v = some (vp_updL r a w) := by
  unfold fX8_cut fX5_put
  simp only [ixb_nI ha]
  by_cases h0 : lane = 0
  · rw [if_pos h0, if_pos h0]; exact ⟨_, rfl, rfl⟩
  · rw [if_neg h0, if_neg h0]
    by_cases h1 : lane = 1
    · rw [if_pos h1, if_pos h1]; exact ⟨_, rfl, rfl⟩
    · rw [if_neg h1, if_neg h1]
      by_cases h2 : lane = 2
      · rw [if_pos h2, if_pos h2]; exact ⟨_, rfl, rfl⟩
      · rw [if_neg h2, if_neg h2]; exact ⟨_, rfl, rfl⟩
theorem sim_item (N : Nat) (hN : 1000 ≤ N) : Simitem N Rel := by
  intro S M y0 y1 y2 y3 hR
  obtain ⟨hRC, hI, hT, hD, hZ⟩ := id hR
  unfold fX7_item fX8_item
  rw [c_sheet, m_sheet, c_lane, m_lane]
  simp only [bnd_s, ite_b2i, decide_eq_true_eq]
  by_cases hy : 0 ≤ y0.toInt ∧ y0.toInt < (4 : Nat)
  · rw [if_pos hy, if_pos hy]
    obtain ⟨q, hq, rfl⟩ := rng (n := 4) hy
    by_cases hl : 0 ≤ y1.toInt ∧ y1.toInt < (4 : Nat)
    · rw [if_pos hl, if_pos hl, ixb_nI hq]
      obtain ⟨v, v1, v2, v3⟩ := sheet_ref N hZ hq y1 y2 1
      rw [v1, bnd_s, v2, bnd_s]
      by_cases h0 : v = 0
      · rw [if_pos h0, if_pos h0]
        obtain ⟨L, a, b, s1, s2, s3, rfl, s5, s6⟩ := v3 h0
        have hb : b = 1 ∨ 24 < b := by
          by_cases h : b ≤ 24
          · exact Or.inl ((neq (a := b) (b := 1) (by omega) (by omega)).mp s5.symm)
          · exact Or.inr (by omega)
        have ha : a < 24 := by omega
        obtain ⟨w, w1, w2⟩ := c_put N ha y1 (S.2.2.2.2.2.2.2.2.2.2.2 q) y3
        have e : (24 : Int32) * nI q + nI a = nI (24 * q + a) := by rw [show (24 : Int32) = nI 24 from rfl, n_mul, nI_add]
        rw [show S.2.2.2.2.2.2.2.2.2.1 q = y1 from (hZ q hq).1.trans s3, w2, bnd_s, w1, bnd_s, e, ixb_nI (by omega)]
        exact ⟨_, _, rfl, rfl, rfl, hRC, hI, hT, hD, rsh_it hZ (it_upd (it_of hZ) w ha)⟩
      · rw [if_neg h0, if_neg h0]; exact ⟨_, _, rfl, rfl, rfl, hR⟩
    · rw [if_neg hl, if_neg hl]; exact ⟨_, _, rfl, rfl, rfl, hR⟩
  · rw [if_neg hy, if_neg hy]; exact ⟨_, _, rfl, rfl, rfl, hR⟩
