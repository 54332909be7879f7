/-! PURE: people, both in step -/
def kx (v : Nat) : Nat := if v = 112 then 0 else if v = 108 then 1 else if v = 100 then 2 else if v = 115 then 3 else if v = 99 then 4 else 5
def kxi (v : Nat) : Int32 := if kx v = 5 then -1 else nI (kx v)
theorem kx_le (v : Nat) : kx v ≤ 5 := by unfold kx; (repeat' split) <;> omega
theorem idx_step (M : Nat) {x1 : Int32} {v n j : Nat} (hj : j < 5) : fJ1_indexOfChar_4cfef_L7 M x1 0 5 (nI v) (n + 1) (nI j) = if sby j = nI v then some (.inl (nI j)) else fJ1_indexOfChar_4cfef_L7 M x1 0 5 (nI v) n (nI (j + 1)) := by
  rw [fJ1_indexOfChar_4cfef_L7, if_neg (show ¬ (5 : Int32) ≤ nI j from fun z => by have := (nle (a := 5) (by omega) (by omega)).mp z; omega), ixb_nI hj, n_s1]
theorem idx_end (M : Nat) {x1 : Int32} {v n : Nat} : fJ1_indexOfChar_4cfef_L7 M x1 0 5 (nI v) (n + 1) (nI 5) = some (.inr (nI 5)) := by
  rw [fJ1_indexOfChar_4cfef_L7, if_pos (by decide)]
theorem sby_iff {v w j : Nat} (hv : v < 127) (hw : w < 127) (e : sby j = nI w) : sby j = nI v ↔ v = w := by
  rw [e]
  constructor
  · intro z; exact ((neq (by omega) (by omega)).mp z).symm
  · intro z; rw [z]
theorem c_idx (N : Nat) (hN : 1000 ≤ N) {v : Nat} (hv : v < 127) : fJ0_indexOf_0f7a4 N (nI v) = some (kxi v) := by
  obtain ⟨n, rfl⟩ : ∃ n, N = n + 6 := ⟨N - 6, by omega⟩
  have ht : (nI v).toInt8.toInt32 = nI v := (by decide +kernel : ∀ v, v < 127 → (nI v).toInt8.toInt32 = nI v) v hv
  have key : fJ1_indexOfChar_4cfef (n + 6) (nI v) 0 5 = some (kxi v) := by
    unfold fJ1_indexOfChar_4cfef
    rw [ht, show (fJ1_indexOfChar_4cfef_L7 (n + 6) (nI v) 0 5 (nI v) (n + 6) 0) = fJ1_indexOfChar_4cfef_L7 (n + 6) (nI v) 0 5 (nI v) (n + 6) (nI 0) from rfl, idx_step _ (by omega), idx_step _ (by omega), idx_step _ (by omega), idx_step _ (by omega), idx_step _ (by omega), idx_end,
      ite_iff (sby_iff (w := 112) hv (by omega) rfl), ite_iff (sby_iff (w := 108) hv (by omega) rfl), ite_iff (sby_iff (w := 100) hv (by omega) rfl), ite_iff (sby_iff (w := 115) hv (by omega) rfl), ite_iff (sby_iff (w := 99) hv (by omega) rfl)]
    unfold kxi kx
    by_cases h1 : v = 112
    · subst h1; rfl
    by_cases h2 : v = 108
    · subst h2; rfl
    by_cases h3 : v = 100
    · subst h3; rfl
    by_cases h4 : v = 115
    · subst h4; rfl
    by_cases h5 : v = 99
    · subst h5; rfl
    simp only [if_neg h1, if_neg h2, if_neg h3, if_neg h4, if_neg h5]; rfl
  have he : fJ1_canEncode_9a6ad (n + 6) (nI v) = some 1 := by
    unfold fJ1_canEncode_9a6ad
    rw [if_neg (show ¬ nI v < 0 from fun z => by have := (nlt (b := 0) (by omega) (by omega)).mp z; omega), if_neg (show ¬ (255 : Int32) < nI v from fun z => by have := (nlt (a := 255) (by omega) (by omega)).mp z; omega)]
  have hl : fJ0_length_8abf5 (n + 6) = some 5 := rfl
  have hi : fJ0_isLatin1_aae02 (n + 6) = some 1 := rfl
  unfold fJ0_indexOf_0f7a4 fJ0_indexOf_7cf53
  rw [hi, bnd_s, if_neg i10, hl, bnd_s]
  unfold fJ1_indexOf_4cfef
  rw [he, bnd_s, if_neg i10, show imax 0 0 = 0 by decide, show imin 5 5 = 5 by decide, if_pos (by decide), key]
  rfl
/-- a person's weight stands there -/
def wgt (tl : Nat) (ch : Nat → Nat) (p : Nat) : Prop := p < tl ∧ 49 ≤ ch p ∧ ch p ≤ 57
theorem m_rperson (N : Nat) (hN : 1000 ≤ N) {tl : Nat} {ch : Nat → Nat} {L T : Nat → Int32} (h : TP tl ch L T) {a n : Nat} (ha : a ≤ tl) (hn : n < 6) (rp : Nat → Int32) :
    (tl ≤ a ∨ kx (ch a) = 5 → fX8_readsPerson N (nI tl) (nI a) (nI n) T rp = some (0, nI a, nI n, rp)) ∧
    (a < tl ∧ kx (ch a) ≠ 5 → (¬ wgt tl ch (sk tl ch (a + 1)) → fX8_readsPerson N (nI tl) (nI a) (nI n) T rp = some (0, nI (sk tl ch (a + 1)), nI n, rp)) ∧
      (wgt tl ch (sk tl ch (a + 1)) → fX8_readsPerson N (nI tl) (nI a) (nI n) T rp = some (1, nI (sk tl ch (sk tl ch (a + 1) + 1)), nI (n + 1), upd (upd rp (2 * n) (nI (kx (ch a)))) (2 * n + 1) (nI (ch (sk tl ch (a + 1)) - 48))))) := by
  have h1 := h.1
  have hh : ∀ x, x < 2 ^ 20 → fX8_isHere N (nI tl) (nI a) T (nI x) = some (b2i (decide (a < tl ∧ ch a = x))) := fun x hx => m_here N h ha hx
  have e1 : fX8_isHere N (nI tl) (nI a) T 112 = some (b2i (decide (a < tl ∧ ch a = 112))) := hh 112 (by omega)
  have e2 : fX8_isHere N (nI tl) (nI a) T 108 = some (b2i (decide (a < tl ∧ ch a = 108))) := hh 108 (by omega)
  have e3 : fX8_isHere N (nI tl) (nI a) T 100 = some (b2i (decide (a < tl ∧ ch a = 100))) := hh 100 (by omega)
  have e4 : fX8_isHere N (nI tl) (nI a) T 115 = some (b2i (decide (a < tl ∧ ch a = 115))) := hh 115 (by omega)
  have e5 : fX8_isHere N (nI tl) (nI a) T 99 = some (b2i (decide (a < tl ∧ ch a = 99))) := hh 99 (by omega)
  have tail : a < tl → ∀ k : Int32, 
      (¬ wgt tl ch (sk tl ch (a + 1)) → (bnd (fX8_skip N (nI tl) (nI a + 1) T) fun o18 => bnd (fX8_isDigit N (nI tl) o18 T 1) fun o20 => if o20 = 0 then some ((0 : Int32), o18, nI n, rp) else ixb (2 * nI n) 12 fun κ23 => ixb o18 110 fun κ24 => ixb ((2 * nI n) + 1) 12 fun κ25 => bnd (fX8_skip N (nI tl) (o18 + 1) T) fun o26 => some (1, o26, (nI n + 1), (upd (upd rp κ23 k) κ25 ((T κ24) - 48)))) = some (0, nI (sk tl ch (a + 1)), nI n, rp)) ∧
      (wgt tl ch (sk tl ch (a + 1)) → (bnd (fX8_skip N (nI tl) (nI a + 1) T) fun o18 => bnd (fX8_isDigit N (nI tl) o18 T 1) fun o20 => if o20 = 0 then some ((0 : Int32), o18, nI n, rp) else ixb (2 * nI n) 12 fun κ23 => ixb o18 110 fun κ24 => ixb ((2 * nI n) + 1) 12 fun κ25 => bnd (fX8_skip N (nI tl) (o18 + 1) T) fun o26 => some (1, o26, (nI n + 1), (upd (upd rp κ23 k) κ25 ((T κ24) - 48)))) = some (1, nI (sk tl ch (sk tl ch (a + 1) + 1)), nI (n + 1), upd (upd rp (2 * n) k) (2 * n + 1) (nI (ch (sk tl ch (a + 1)) - 48)))) := by
    intro hal k
    have hs := sk_le ch (show a + 1 ≤ tl from hal)
    have e0 : (2 : Int32) * nI n = nI (2 * n) := n_mul 2 n
    rw [n_s1, m_sk N hN h hal, bnd_s, show fX8_isDigit N (nI tl) (nI (sk tl ch (a + 1))) T 1 = _ from m_dig N h hs (lo := 1) (by omega), bnd_s, ite_b2i]
    generalize sk tl ch (a + 1) = b at hs ⊢
    constructor
    · intro hw
      rw [if_neg (fun z => hw (by have := of_decide_eq_true z; exact ⟨this.1, by omega, this.2.2⟩))]
    · intro hw
      obtain ⟨w1, w2, w3⟩ := id hw
      obtain ⟨a1, a2, a3, a4⟩ := h.2 b w1
      rw [if_pos (decide_eq_true ⟨w1, by omega, w3⟩), e0, ixb_nI (by omega), ixb_nI (by omega), n_s1, ixb_nI (by omega), n_s1, m_sk N hN h w1, bnd_s, n_s1, a4, show nI (ch b) - 48 = nI (ch b - 48) from n_sub (b := 48) (by omega)]
  unfold fX8_readsPerson
  rw [e1, bnd_s, ite_b2i, e2, bnd_s, ite_b2i, e3, bnd_s, ite_b2i, e4, bnd_s, ite_b2i, e5, bnd_s, ite_b2i]
  simp only [decide_eq_true_eq]
  refine ⟨fun hz => ?_, fun hz => ?_⟩
  · have : ¬ (a < tl ∧ ch a = 112) ∧ ¬ (a < tl ∧ ch a = 108) ∧ ¬ (a < tl ∧ ch a = 100) ∧ ¬ (a < tl ∧ ch a = 115) ∧ ¬ (a < tl ∧ ch a = 99) := by
      rcases hz with hz | hz
      · omega
      · unfold kx at hz
        refine ⟨?_, ?_, ?_, ?_, ?_⟩ <;> intro ⟨y1, y2⟩ <;> simp [y2] at hz
    obtain ⟨f1, f2, f3, f4, f5⟩ := this
    rw [if_neg f1, if_neg f2, if_neg f3, if_neg f4, if_neg f5]
  · obtain ⟨hal, hk⟩ := hz
    have hc : ch a = 112 ∨ ch a = 108 ∨ ch a = 100 ∨ ch a = 115 ∨ ch a = 99 := by
      unfold kx at hk
      apply Decidable.byContradiction
      intro z
      simp only [not_or] at z
      obtain ⟨z1, z2, z3, z4, z5⟩ := z
      simp [z1, z2, z3, z4, z5] at hk
    rcases hc with e | e | e | e | e
    · rw [if_pos ⟨hal, e⟩, e]; exact tail hal 0
    · rw [if_neg (by omega), if_pos ⟨hal, e⟩, e]; exact tail hal 1
    · rw [if_neg (by omega), if_neg (by omega), if_pos ⟨hal, e⟩, e]; exact tail hal 2
    · rw [if_neg (by omega), if_neg (by omega), if_neg (by omega), if_pos ⟨hal, e⟩, e]; exact tail hal 3
    · rw [if_neg (by omega), if_neg (by omega), if_neg (by omega), if_neg (by omega), if_pos ⟨hal, e⟩, e]; exact tail hal 4
theorem c_addPerson (N : Nat) {c : Nat} (hc : c < 6) (kind weight : Nat → Int32) (v w : Int32) : fX0_addPerson N (nI c) kind weight v w = some (nI (c + 1) - 1, nI (c + 1), upd kind c v, upd weight c w) := by
  unfold fX0_addPerson; rw [ixb_nI hc, ixb_nI hc, n_s1]
def PERR (tl : Nat) (ch : Nat → Nat) (n : Nat) (kind weight rp : Nat → Int32) (o : Int32 × Int32 × Int32 × (Nat → Int32) × (Nat → Int32)) (o' : Int32 × Int32 × Int32 × (Nat → Int32)) : Prop :=
  (∃ q, q ≤ tl ∧ o.1 = 0 ∧ o.2.1 = nI q ∧ o'.1 = 0 ∧ o'.2.1 = nI q) ∨
  (∃ q k w, q ≤ tl ∧ k ≤ 4 ∧ 1 ≤ w ∧ w ≤ 9 ∧ o = (1, nI q, nI (n + 1), upd kind n (nI k), upd weight n (nI w)) ∧ o' = (1, nI (sk tl ch q), nI (n + 1), upd (upd rp (2 * n) (nI k)) (2 * n + 1) (nI w)))
theorem person_co (N : Nat) (hN : 1000 ≤ N) {tl : Nat} {ch : Nat → Nat} {L T : Nat → Int32} (h : TP tl ch L T) {p n : Nat} (hp : p ≤ tl) (hn : n < 6) (kind weight rp : Nat → Int32) :
    ∃ o o', fX6_readPerson N (nI tl) (nI p) L (nI n) kind weight = some o ∧ fX8_readsPerson N (nI tl) (nI (sk tl ch p)) (nI n) T rp = some o' ∧ PERR tl ch n kind weight rp o o' := by
  have h1 := h.1
  have ha := sk_le ch hp
  obtain ⟨m1, m2⟩ := m_rperson N hN h ha hn rp
  unfold fX6_readPerson
  rw [c_sk N hN h hp, bnd_s]
  generalize sk tl ch p = a at ha m1 m2 ⊢
  by_cases q : tl ≤ a
  · rw [if_pos ((nle (by omega) (by omega)).mpr q), m1 (Or.inl q)]
    exact ⟨_, _, rfl, rfl, Or.inl ⟨a, ha, rfl, rfl, rfl, rfl⟩⟩
  · obtain ⟨a1, a2, a3, a4⟩ := h.2 a (by omega)
    rw [if_neg (fun z => q ((nle (by omega) (by omega)).mp z)), ixb_nI (by omega), a3, c_idx N hN (by omega), bnd_s]
    have hk5 := kx_le (ch a)
    by_cases k5 : kx (ch a) = 5
    · rw [m1 (Or.inr k5)]
      unfold kxi
      rw [if_pos k5, if_neg (by decide)]
      exact ⟨_, _, rfl, rfl, Or.inl ⟨a, ha, rfl, rfl, rfl, rfl⟩⟩
    · obtain ⟨m3, m4⟩ := m2 ⟨by omega, k5⟩
      have hal : a + 1 ≤ tl := by omega
      have hs := sk_le ch hal
      have ek : kxi (ch a) = nI (kx (ch a)) := by unfold kxi; rw [if_neg k5]
      rw [ek, if_pos (nI_pos' (by omega)), n_s1, c_sk N hN h hal, bnd_s]
      generalize sk tl ch (a + 1) = b at hs m3 m4 ⊢
      by_cases hw : wgt tl ch b
      · obtain ⟨w1, w2, w3⟩ := id hw
        rw [m4 hw, c_dig_t N h ⟨w1, by omega, w3⟩, bnd_s, if_pos (show (1 : Int32) ≤ nI (ch b - 48) from (nle (a := 1) (by omega) (by omega)).mpr (by omega)), c_addPerson N hn, bnd_s, n_s1]
        exact ⟨_, _, rfl, rfl, Or.inr ⟨b + 1, kx (ch a), ch b - 48, w1, by omega, by omega, by omega, rfl, rfl⟩⟩
      · rw [m3 hw]
        by_cases hd : dgt tl ch b
        · have : ch b = 48 := by
            have := hd.2
            apply Decidable.byContradiction
            intro z
            exact hw ⟨hd.1, by omega, by omega⟩
          rw [c_dig_t N h hd, bnd_s, if_neg (by rw [this]; decide)]
          exact ⟨_, _, rfl, rfl, Or.inl ⟨b, hs, rfl, rfl, rfl, rfl⟩⟩
        · rw [c_dig_f N h hs hd, bnd_s, if_neg (by decide)]
          exact ⟨_, _, rfl, rfl, Or.inl ⟨b, hs, rfl, rfl, rfl, rfl⟩⟩
def PERD (np : Nat) (kind weight rp : Nat → Int32) : Prop := ∀ j, j < np → ∃ k w : Nat, k ≤ 4 ∧ 1 ≤ w ∧ w ≤ 9 ∧ kind j = nI k ∧ weight j = nI w ∧ rp (2 * j) = nI k ∧ rp (2 * j + 1) = nI w
theorem PERD.put {c v w : Nat} {kind weight rp : Nat → Int32} (h : PERD c kind weight rp) (hv : v ≤ 4) (hw1 : 1 ≤ w) (hw : w ≤ 9) : PERD (c + 1) (upd kind c (nI v)) (upd weight c (nI w)) (upd (upd rp (2 * c) (nI v)) (2 * c + 1) (nI w)) := by
  intro j hj
  by_cases q : j = c
  · exact ⟨v, w, hv, hw1, hw, by rw [q, upd_s], by rw [q, upd_s], by rw [q, upd_n (by omega), upd_s], by rw [q, upd_s]⟩
  · obtain ⟨k, u, h1, h2, h3, h4, h5, h6, h7⟩ := h j (by omega)
    exact ⟨k, u, h1, h2, h3, by rw [upd_n q, h4], by rw [upd_n q, h5], by rw [upd_n (by omega), upd_n (by omega), h6], by rw [upd_n (by omega), upd_n (by omega), h7]⟩
def PEOR (tl : Nat) (ch : Nat → Nat) (r : (Int32 × Int32 × Int32 × (Nat → Int32) × (Nat → Int32)) ⊕ (Int32 × Int32 × Int32 × (Nat → Int32) × (Nat → Int32))) (r' : Int32 × Int32 × Int32 × (Nat → Int32)) : Prop :=
  (∃ q z, q ≤ tl ∧ r = .inl (0, nI q, z) ∧ r'.1 = 0 ∧ r'.2.1 = nI q) ∨
  (∃ q np x kind weight rp, q ≤ tl ∧ 1 ≤ np ∧ np ≤ 6 ∧ r = .inr (x, nI q, nI np, kind, weight) ∧ r' = (1, nI (sk tl ch q), nI np, rp) ∧ PERD np kind weight rp)
theorem people_loop (N : Nat) (hN : 1000 ≤ N) {tl : Nat} {ch : Nat → Nat} {L T : Nat → Int32} (h : TP tl ch L T) : ∀ (n c p : Nat) (kind weight rp : Nat → Int32), c < 6 → 7 - c ≤ n → p ≤ tl → PERD c kind weight rp →
    ∃ r r', fX6_readPeople_L2 N (nI tl) L n (nI c) (nI p) (nI c) kind weight = some r ∧ (bnd (fX8_readsPerson N (nI tl) (nI (sk tl ch p)) (nI c) T rp) fun o => fX8_reads_L85 N (nI tl) T n o.1 o.2.1 o.2.2.1 o.2.2.2) = some r' ∧ PEOR tl ch r r' := by
  have h1 := h.1
  intro n
  induction n with
  | zero => intro c p kind weight rp hc hn; omega
  | succ n ih =>
    intro c p kind weight rp hc hn hp hD
    obtain ⟨o, o', e, e', hr⟩ := person_co N hN h hp hc kind weight rp
    have hcc : ¬ (6 : Int32) ≤ nI c := fun z => by have := (nle (a := 6) (by omega) (by omega)).mp z; omega
    rw [fX6_readPeople_L2, if_neg hcc, e, bnd_s, e', bnd_s]
    rcases hr with ⟨q, hq, z1, z2, z3, z4⟩ | ⟨q, k, w, hq, hk, hw1, hw, rfl, rfl⟩
    · rw [if_pos z1, fX8_reads_L85, if_pos z3]
      exact ⟨_, _, rfl, rfl, Or.inl ⟨q, _, hq, by rw [z2], z3, z4⟩⟩
    · have hD' := hD.put hk hw1 hw
      dsimp only
      rw [if_neg i10, fX8_reads_L85, if_neg i10, n_s1]
      by_cases q12 : c + 1 = 6
      · rw [if_pos (show nI (c + 1) = 6 by rw [q12]; rfl), if_pos (show (6 : Int32) ≤ nI (c + 1) by rw [q12]; decide)]
        exact ⟨_, _, rfl, rfl, Or.inr ⟨q, c + 1, _, _, _, _, hq, by omega, by omega, rfl, rfl, hD'⟩⟩
      · rw [if_neg (show ¬ nI (c + 1) = 6 from fun z => q12 ((neq (b := 6) (by omega) (by omega)).mp z)), if_neg (show ¬ (6 : Int32) ≤ nI (c + 1) from fun z => by have := (nle (a := 6) (by omega) (by omega)).mp z; omega)]
        by_cases qh : hit tl ch q 44 = true
        · rw [show fX6_readLetter N (nI tl) (nI q) L 44 = _ from c_let_t N hN h hq (x := 44) (by omega) qh, bnd_s, show fX8_sign N (nI tl) (nI (sk tl ch q)) T 44 = _ from m_sign_t N hN h hq (x := 44) (by omega) qh, bnd_s]
          dsimp only
          rw [if_neg i10, if_neg i10]
          exact ih (c + 1) (sk tl ch q + 1) _ _ _ (by omega) (by omega) (hit_lt qh) hD'
        · rw [show fX6_readLetter N (nI tl) (nI q) L 44 = _ from c_let_f N hN h hq (x := 44) (by omega) qh, bnd_s, show fX8_sign N (nI tl) (nI (sk tl ch q)) T 44 = _ from m_sign_f N hN h hq (x := 44) (by omega) qh, bnd_s]
          dsimp only
          rw [if_pos rfl, if_pos rfl]
          exact ⟨_, _, rfl, rfl, Or.inr ⟨sk tl ch q, c + 1, _, _, _, _, sk_le ch hq, by omega, by omega, rfl, by rw [sk_sk], hD'⟩⟩
def PEOE (tl : Nat) (ch : Nat → Nat) (o : Int32 × Int32 × Int32 × (Nat → Int32) × (Nat → Int32)) (r' : Int32 × Int32 × Int32 × (Nat → Int32)) : Prop :=
  (∃ q, q ≤ tl ∧ o.1 = 0 ∧ o.2.1 = nI q ∧ r'.1 = 0 ∧ r'.2.1 = nI q) ∨
  (∃ q np kind weight rp, q ≤ tl ∧ 1 ≤ np ∧ np ≤ 6 ∧ o = (1, nI q, nI np, kind, weight) ∧ r' = (1, nI (sk tl ch q), nI np, rp) ∧ PERD np kind weight rp)
theorem people_co (N : Nat) (hN : 1000 ≤ N) {tl : Nat} {ch : Nat → Nat} {L T : Nat → Int32} (h : TP tl ch L T) {p : Nat} (hp : p ≤ tl) (kind weight rp : Nat → Int32) :
    ∃ o r', fX6_readPeople N (nI tl) (nI p) L 0 kind weight = some o ∧ (bnd (fX8_readsPerson N (nI tl) (nI (sk tl ch p)) 0 T rp) fun o => if o.1 = 0 then fX8_reads_L85 N (nI tl) T N 0 o.2.1 o.2.2.1 o.2.2.2 else fX8_reads_L85 N (nI tl) T N 1 o.2.1 o.2.2.1 o.2.2.2) = some r' ∧ PEOE tl ch o r' := by
  obtain ⟨r, r', e, e', hr⟩ := people_loop N hN h N 0 p kind weight rp (by omega) (by omega) hp (fun j hj => absurd hj (Nat.not_lt_zero _))
  obtain ⟨a, a', -, f', hz⟩ := person_co N hN h hp (n := 0) (by omega) kind weight rp
  have e : fX6_readPeople_L2 N (nI tl) L N 0 (nI p) 0 kind weight = some r := e
  have f' : fX8_readsPerson N (nI tl) (nI (sk tl ch p)) 0 T rp = some a' := f'
  have e' : (bnd (fX8_readsPerson N (nI tl) (nI (sk tl ch p)) 0 T rp) fun o => fX8_reads_L85 N (nI tl) T N o.1 o.2.1 o.2.2.1 o.2.2.2) = some r' := e'
  have g : (bnd (fX8_readsPerson N (nI tl) (nI (sk tl ch p)) 0 T rp) fun o => if o.1 = 0 then fX8_reads_L85 N (nI tl) T N 0 o.2.1 o.2.2.1 o.2.2.2 else fX8_reads_L85 N (nI tl) T N 1 o.2.1 o.2.2.1 o.2.2.2) = some r' := by
    rw [f', bnd_s] at e' ⊢
    have : a'.1 = 0 ∨ a'.1 = 1 := by
      rcases hz with ⟨q, -, -, -, z, -⟩ | ⟨q, k, w, -, -, -, -, -, z⟩
      · exact Or.inl z
      · exact Or.inr (by rw [z])
    rcases this with z | z
    · rw [z] at e'; rw [if_pos z]; exact e'
    · rw [z] at e'; rw [if_neg (by rw [z]; exact i10)]; exact e'
  unfold fX6_readPeople
  rw [e, bnd_s]
  refine Exists.elim (show ∃ o, (lret r fun v11 => some (1, v11.2.1, v11.2.2.1, v11.2.2.2.1, v11.2.2.2.2)) = some o ∧ PEOE tl ch o r' from ?_) (fun o ho => ⟨o, r', ho.1, g, ho.2⟩)
  rcases hr with ⟨q, z, hq, rfl, z3, z4⟩ | ⟨q, np, x, kind', weight', rp', hq, hn1, hn2, rfl, rfl, hD⟩
  · exact ⟨_, rfl, Or.inl ⟨q, hq, rfl, rfl, z3, z4⟩⟩
  · exact ⟨_, rfl, Or.inr ⟨q, np, _, _, _, hq, hn1, hn2, rfl, rfl, hD⟩⟩
