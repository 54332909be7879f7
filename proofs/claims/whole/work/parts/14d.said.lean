/-! PURE: sayings, both in step -/
theorem s_shz : ∀ w, w < 64 → ∀ d, d < 6 → ((nI w >>> (nI d &&& 31)) = 0 ↔ w < 2 ^ d) := by decide +kernel
theorem s_orb : ∀ w, w < 64 → ∀ d, d < 6 → nI w ||| ((1 : Int32) <<< (nI d &&& 31)) = nI (w ||| 2 ^ d) := by decide +kernel
/-- a set whose greatest is ahead of l -/
def TOP (l w : Nat) : Prop := w < 2 ^ l ∧ (l = 0 ∨ 2 ^ (l - 1) ≤ w)
theorem TOP.lt {l w d : Nat} (h : TOP l w) : w < 2 ^ d ↔ l ≤ d := by
  constructor
  · intro z
    apply Decidable.byContradiction
    intro y
    rcases h.2 with e | e
    · omega
    · have := Nat.pow_le_pow_right (n := 2) (by decide) (show d ≤ l - 1 by omega)
      omega
  · intro z
    have := Nat.pow_le_pow_right (n := 2) (by decide) z
    have := h.1
    omega
theorem TOP.put {l w d : Nat} (h : TOP l w) (hd : l ≤ d) : TOP (d + 1) (w ||| 2 ^ d) := by
  refine ⟨Nat.or_lt_two_pow ?_ (Nat.pow_lt_pow_right (by decide) (by omega)), Or.inr ?_⟩
  · have := Nat.pow_le_pow_right (n := 2) (by decide) (show l ≤ d + 1 by omega)
    have := h.1
    omega
  · show 2 ^ d ≤ w ||| 2 ^ d
    exact Nat.right_le_or
theorem TOP.l64 {l w : Nat} (h : TOP l w) (hl : l ≤ 6) : w < 64 := by
  have := Nat.pow_le_pow_right (n := 2) (by decide) hl
  have := h.1
  omega
/-- a person stands there who is behind all in the set -/
def forp (tl : Nat) (ch : Nat → Nat) (np l p : Nat) : Prop := dgt tl ch p ∧ ch p - 48 < np ∧ l ≤ ch p - 48
theorem m_for_t (N : Nat) {tl : Nat} {ch : Nat → Nat} {L T : Nat → Int32} (h : TP tl ch L T) {a np l w : Nat} (hn : np ≤ 6) (hl : l ≤ 6) (ht : TOP l w) (hf : forp tl ch np l a) : fX8_isFor N (nI tl) (nI a) (nI np) T (nI w) = some 1 := by
  have h1 := h.1
  obtain ⟨⟨d1, d2, d3⟩, f2, f3⟩ := hf
  obtain ⟨a1, a2, a3, a4⟩ := h.2 a d1
  unfold fX8_isFor
  rw [show fX8_isDigit N (nI tl) (nI a) T 0 = _ from m_dig N h (Nat.le_of_lt d1) (lo := 0) (by omega), bnd_s, ite_b2i, if_pos (decide_eq_true ⟨d1, by omega, d3⟩), ixb_nI (by omega), a4, show nI (ch a) - 48 = nI (ch a - 48) from n_sub (b := 48) d2, if_neg (fun z => by have := (nle (by omega) (by omega)).mp z; omega), ixb_nI (by omega), a4, show nI (ch a) - 48 = nI (ch a - 48) from n_sub (b := 48) d2, if_pos ((s_shz w (ht.l64 hl) _ (by omega)).mpr (ht.lt.mpr f3))]
theorem m_for_f (N : Nat) {tl : Nat} {ch : Nat → Nat} {L T : Nat → Int32} (h : TP tl ch L T) {a np l w : Nat} (ha : a ≤ tl) (hn : np ≤ 6) (hl : l ≤ 6) (ht : TOP l w) (hf : ¬ forp tl ch np l a) : fX8_isFor N (nI tl) (nI a) (nI np) T (nI w) = some 0 := by
  have h1 := h.1
  unfold fX8_isFor
  rw [show fX8_isDigit N (nI tl) (nI a) T 0 = _ from m_dig N h ha (lo := 0) (by omega), bnd_s, ite_b2i]
  by_cases hd : dgt tl ch a
  · obtain ⟨d1, d2, d3⟩ := id hd
    obtain ⟨a1, a2, a3, a4⟩ := h.2 a d1
    rw [if_pos (decide_eq_true ⟨d1, by omega, d3⟩), ixb_nI (by omega), a4, show nI (ch a) - 48 = nI (ch a - 48) from n_sub (b := 48) d2]
    by_cases f2 : ch a - 48 < np
    · rw [if_neg (fun z => by have := (nle (by omega) (by omega)).mp z; omega), ixb_nI (by omega), a4, show nI (ch a) - 48 = nI (ch a - 48) from n_sub (b := 48) d2, if_neg (fun z => hf ⟨hd, f2, ht.lt.mp ((s_shz w (ht.l64 hl) _ (by omega)).mp z)⟩)]
    · rw [if_pos ((nle (by omega) (by omega)).mpr (by omega))]
  · rw [if_neg (fun z => hd (by have := of_decide_eq_true z; exact ⟨this.1, by omega, this.2.2⟩))]
def FORR (tl : Nat) (ch : Nat → Nat) (np s : Nat) (f : Nat → Int32) (r : (Int32 × Int32 × (Nat → Int32)) ⊕ (Int32 × Int32 × Int32 × (Nat → Int32))) (r' : Int32 × Int32) : Prop :=
  (∃ q w x y f', q ≤ tl ∧ sk tl ch q = q ∧ w < 2 ^ np ∧ r = .inr (x, y, nI q, f') ∧ r' = (nI w, nI q) ∧ f' s = nI w ∧ ∀ j, j ≠ s → f' j = f j) ∨
  (∃ q z, dgt tl ch q ∧ r = .inl (0, nI q, z) ∧ r'.2 = nI q)
theorem fors_loop (N : Nat) (hN : 1000 ≤ N) {tl : Nat} {ch : Nat → Nat} {L T : Nat → Int32} (h : TP tl ch L T) {np s : Nat} (hnp : np ≤ 6) (hs5 : s < 5) : ∀ (n i l a w : Nat) (f : Nat → Int32), i ≤ 6 → i ≤ l → l ≤ np → 8 - i ≤ n → dgt tl ch a → TOP l w → f s = nI w →
    ∃ r r', fX6_readFors_L8 N (nI s) (nI tl) L (nI np) n (nI l) (nI i) (nI a) f = some r ∧ fX8_readsSaying_L32 N (nI tl) (nI np) T n (nI w) (nI a) = some r' ∧ FORR tl ch np s f r r' := by
  have h1 := h.1
  intro n
  induction n with
  | zero => intro i l a w f hi hil hl hn; omega
  | succ n ih =>
    intro i l a w f hi hil hl hn hd ht hf
    have hw : w < 2 ^ np := by
      have := Nat.pow_le_pow_right (n := 2) (by decide) hl
      have := ht.1
      omega
    have ha : a ≤ tl := Nat.le_of_lt hd.1
    obtain ⟨d1, d2, d3⟩ := id hd
    obtain ⟨a1, a2, a3, a4⟩ := h.2 a d1
    rw [fX6_readFors_L8, fX8_readsSaying_L32]
    by_cases q6 : i = 6
    · rw [if_pos (show (6 : Int32) ≤ nI i by rw [q6]; decide), m_for_f N h ha hnp (by omega) ht (fun z => by have := z.2; omega), bnd_s, if_pos rfl]
      exact ⟨_, _, rfl, rfl, Or.inl ⟨a, w, _, _, f, ha, dgt_sk hd, hw, rfl, rfl, hf, fun j _ => rfl⟩⟩
    · rw [if_neg (show ¬ (6 : Int32) ≤ nI i from fun z => by have := (nle (a := 6) (by omega) (by omega)).mp z; omega), c_dig_t N h hd, bnd_s]
      by_cases ql : ch a - 48 < l
      · rw [if_pos ((nlt (by omega) (by omega)).mpr ql), m_for_f N h ha hnp (by omega) ht (fun z => by have := z.2; omega), bnd_s, if_pos rfl]
        exact ⟨_, _, rfl, rfl, Or.inr ⟨a, _, hd, rfl, rfl⟩⟩
      · rw [if_neg (fun z => ql ((nlt (by omega) (by omega)).mp z))]
        by_cases qn : ch a - 48 < np
        · have hal : a + 1 ≤ tl := d1
          have hb := sk_le ch hal
          have hbb := sk_sk tl ch (a + 1)
          have w64 := ht.l64 (show l ≤ 6 by omega)
          have ht' := ht.put (show l ≤ ch a - 48 by omega)
          have ew : nI w ||| ((1 : Int32) <<< (nI (ch a - 48) &&& 31)) = nI (w ||| 2 ^ (ch a - 48)) := s_orb w w64 _ (by omega)
          have hw' : w ||| 2 ^ (ch a - 48) < 2 ^ np := by
            have := Nat.pow_le_pow_right (n := 2) (by decide) (show ch a - 48 + 1 ≤ np by omega)
            have := ht'.1
            omega
          rw [if_pos ((nlt (by omega) (by omega)).mpr qn), ixb_nI hs5, ixb_nI hs5, n_s1, c_sk N hN h hal, bnd_s, m_for_t N h hnp (by omega) ht ⟨hd, qn, by omega⟩, bnd_s, if_neg i10, ixb_nI (by omega), m_sk N hN h hal, bnd_s, hf, a4, show nI (ch a) - 48 = nI (ch a - 48) from n_sub (b := 48) d2, ew, n_s1, n_s1]
          generalize sk tl ch (a + 1) = b at hb hbb ⊢
          by_cases hdb : dgt tl ch b
          · have := hdb.2
            rw [c_dig_t N h hdb, bnd_s, if_pos (nI_pos' (by omega))]
            obtain ⟨r, r', e, e', hr⟩ := ih (i + 1) (ch a - 48 + 1) b (w ||| 2 ^ (ch a - 48)) (upd f s (nI (w ||| 2 ^ (ch a - 48)))) (by omega) (by omega) (by omega) (by omega) hdb ht' upd_s
            refine ⟨r, r', e, e', ?_⟩
            rcases hr with ⟨q, v, x, y, f', y1, y2, y3, y4, y5, y6, y7⟩ | y
            · exact Or.inl ⟨q, v, x, y, f', y1, y2, y3, y4, y5, y6, fun j hj => by rw [y7 j hj, upd_n hj]⟩
            · exact Or.inr y
          · obtain ⟨n, rfl⟩ : ∃ k, n = k + 1 := ⟨n - 1, by omega⟩
            rw [c_dig_f N h hb hdb, bnd_s, if_neg (by decide), fX8_readsSaying_L32, m_for_f N h hb hnp (by omega) ht' (fun z => hdb z.1), bnd_s, if_pos rfl]
            exact ⟨_, _, rfl, rfl, Or.inl ⟨b, _, _, _, _, hb, hbb, hw', rfl, rfl, upd_s, fun j hj => upd_n hj⟩⟩
        · rw [if_neg (fun z => qn ((nlt (by omega) (by omega)).mp z)), m_for_f N h ha hnp (by omega) ht (fun z => qn z.2.1), bnd_s, if_pos rfl]
          exact ⟨_, _, rfl, rfl, Or.inr ⟨a, _, hd, rfl, rfl⟩⟩
