/-! PURE: letters, read by both -/
def TP (tl : Nat) (ch : Nat → Nat) (L T : Nat → Int32) : Prop := tl ≤ 110 ∧ ∀ j, j < tl → 32 ≤ ch j ∧ ch j ≤ 126 ∧ L j = nI (ch j) ∧ T j = nI (ch j)
def skF (tl : Nat) (ch : Nat → Nat) : Nat → Nat → Nat
  | 0, p => p
  | n + 1, p => if tl ≤ p then p else if ch p = 32 then skF tl ch n (p + 1) else p
def sk (tl : Nat) (ch : Nat → Nat) (p : Nat) : Nat := skF tl ch (tl - p) p
theorem skF_ge (tl : Nat) (ch : Nat → Nat) : ∀ n p, p ≤ skF tl ch n p
  | 0, p => Nat.le_refl _
  | n + 1, p => by
    unfold skF
    split
    · exact Nat.le_refl _
    · split
      · have := skF_ge tl ch n (p + 1); omega
      · exact Nat.le_refl _
theorem skF_le (tl : Nat) (ch : Nat → Nat) : ∀ n p, p ≤ tl → skF tl ch n p ≤ tl
  | 0, p, h => h
  | n + 1, p, h => by
    unfold skF
    split
    · exact h
    · split
      · exact skF_le tl ch n (p + 1) (by omega)
      · exact h
theorem skF_end (tl : Nat) (ch : Nat → Nat) : ∀ n p, tl - p ≤ n → tl ≤ skF tl ch n p ∨ ch (skF tl ch n p) ≠ 32
  | 0, p, h => Or.inl (by show tl ≤ p; omega)
  | n + 1, p, h => by
    unfold skF
    split
    · rename_i q; exact Or.inl q
    · split
      · exact skF_end tl ch n (p + 1) (by omega)
      · rename_i q; exact Or.inr q
theorem sk_ge (tl : Nat) (ch : Nat → Nat) (p : Nat) : p ≤ sk tl ch p := skF_ge _ _ _ _
theorem sk_le {tl p : Nat} (ch : Nat → Nat) (h : p ≤ tl) : sk tl ch p ≤ tl := skF_le _ _ _ _ h
theorem sk_stay {tl p : Nat} {ch : Nat → Nat} (h : tl ≤ p ∨ ch p ≠ 32) : sk tl ch p = p := by
  unfold sk
  cases e : tl - p with
  | zero => rfl
  | succ n =>
    unfold skF
    rcases h with h | h
    · rw [if_pos h]
    · by_cases q : tl ≤ p
      · rw [if_pos q]
      · rw [if_neg q, if_neg h]
theorem sk_sk (tl : Nat) (ch : Nat → Nat) (p : Nat) : sk tl ch (sk tl ch p) = sk tl ch p := sk_stay (skF_end _ _ _ _ (Nat.le_refl _))
theorem sk_next {tl p : Nat} {ch : Nat → Nat} (h : p < tl) (h2 : ch p = 32) : sk tl ch p = sk tl ch (p + 1) := by
  unfold sk
  rw [show tl - p = (tl - (p + 1)) + 1 by omega]
  rw [skF, if_neg (by omega), if_pos h2]
theorem c_sk_L (N : Nat) {tl : Nat} {ch : Nat → Nat} {L T : Nat → Int32} (h : TP tl ch L T) : ∀ (n p : Nat), p ≤ tl → tl - p < n → fX6_skipBlanks_L0 N (nI tl) L n (nI p) = some (nI (sk tl ch p)) := by
  have h1 := h.1
  intro n
  induction n with
  | zero => intro p hp hn; omega
  | succ n ih =>
    intro p hp hn
    rw [fX6_skipBlanks_L0]
    by_cases q : tl ≤ p
    · rw [if_pos ((nle (by omega) (by omega)).mpr q), sk_stay (Or.inl q)]
    · obtain ⟨a1, a2, a3, a4⟩ := h.2 p (by omega)
      rw [if_neg (fun z => q ((nle (by omega) (by omega)).mp z)), ixb_nI (by omega), a3, n_s1]
      by_cases e : ch p = 32
      · rw [if_pos (show nI (ch p) = 32 by rw [e]; rfl), sk_next (by omega) e]
        exact ih (p + 1) (by omega) (by omega)
      · rw [if_neg (show ¬ nI (ch p) = 32 from fun z => e ((neq (b := 32) (by omega) (by omega)).mp z)), sk_stay (Or.inr e)]
theorem c_sk (N : Nat) (hN : 1000 ≤ N) {tl : Nat} {ch : Nat → Nat} {L T : Nat → Int32} (h : TP tl ch L T) {p : Nat} (hp : p ≤ tl) : fX6_skipBlanks N (nI tl) (nI p) L = some (nI (sk tl ch p)) := by
  unfold fX6_skipBlanks
  have := h.1
  rw [c_sk_L N h N p hp (by omega), bnd_s]
theorem m_sk_L (N : Nat) {tl : Nat} {ch : Nat → Nat} {L T : Nat → Int32} (h : TP tl ch L T) : ∀ (n p : Nat), p ≤ tl → tl - p < n → fX8_skip_L0 N (nI tl) T n (nI p) = some (nI (sk tl ch p)) := by
  have h1 := h.1
  intro n
  induction n with
  | zero => intro p hp hn; omega
  | succ n ih =>
    intro p hp hn
    rw [fX8_skip_L0]
    by_cases q : tl ≤ p
    · rw [if_pos ((nle (by omega) (by omega)).mpr q), sk_stay (Or.inl q)]
    · obtain ⟨a1, a2, a3, a4⟩ := h.2 p (by omega)
      rw [if_neg (fun z => q ((nle (by omega) (by omega)).mp z)), ixb_nI (by omega), a4, n_s1]
      by_cases e : ch p = 32
      · rw [if_pos (show nI (ch p) = 32 by rw [e]; rfl), sk_next (by omega) e]
        exact ih (p + 1) (by omega) (by omega)
      · rw [if_neg (show ¬ nI (ch p) = 32 from fun z => e ((neq (b := 32) (by omega) (by omega)).mp z)), sk_stay (Or.inr e)]
theorem m_sk (N : Nat) (hN : 1000 ≤ N) {tl : Nat} {ch : Nat → Nat} {L T : Nat → Int32} (h : TP tl ch L T) {p : Nat} (hp : p ≤ tl) : fX8_skip N (nI tl) (nI p) T = some (nI (sk tl ch p)) := by
  unfold fX8_skip
  have := h.1
  rw [m_sk_L N h N p hp (by omega), bnd_s]
/-- a digit stands there -/
def dgt (tl : Nat) (ch : Nat → Nat) (p : Nat) : Prop := p < tl ∧ 48 ≤ ch p ∧ ch p ≤ 57
theorem dgt_sk {tl p : Nat} {ch : Nat → Nat} (h : dgt tl ch p) : sk tl ch p = p := sk_stay (Or.inr (by have := h.2; omega))
theorem c_dig_t (N : Nat) {tl : Nat} {ch : Nat → Nat} {L T : Nat → Int32} (h : TP tl ch L T) {p : Nat} (hd : dgt tl ch p) : fX6_digitHere N (nI tl) (nI p) L = some (nI (ch p - 48)) := by
  have h1 := h.1
  obtain ⟨d1, d2, d3⟩ := hd
  obtain ⟨a1, a2, a3, a4⟩ := h.2 p d1
  unfold fX6_digitHere
  simp only [ixb_nI (show p < 110 by omega), a3]
  rw [if_neg (fun z => by have := (nle (by omega) (by omega)).mp z; omega), if_neg (show ¬ nI (ch p) < 48 from fun z => by have := (nlt (b := 48) (by omega) (by omega)).mp z; omega), if_pos (show nI (ch p) ≤ 57 from (nle (b := 57) (by omega) (by omega)).mpr d3), show nI (ch p) - 48 = nI (ch p - 48) from n_sub (b := 48) d2]
theorem c_dig_f (N : Nat) {tl : Nat} {ch : Nat → Nat} {L T : Nat → Int32} (h : TP tl ch L T) {p : Nat} (hp : p ≤ tl) (hd : ¬ dgt tl ch p) : fX6_digitHere N (nI tl) (nI p) L = some (-1) := by
  have h1 := h.1
  unfold fX6_digitHere
  by_cases q : tl ≤ p
  · rw [if_pos ((nle (by omega) (by omega)).mpr q)]
  · obtain ⟨a1, a2, a3, a4⟩ := h.2 p (by omega)
    simp only [ixb_nI (show p < 110 by omega), a3]
    rw [if_neg (fun z => q ((nle (by omega) (by omega)).mp z))]
    by_cases q1 : ch p < 48
    · rw [if_pos (show nI (ch p) < 48 from (nlt (b := 48) (by omega) (by omega)).mpr q1)]
    · rw [if_neg (show ¬ nI (ch p) < 48 from fun z => q1 ((nlt (b := 48) (by omega) (by omega)).mp z)), if_neg (show ¬ nI (ch p) ≤ 57 from fun z => hd ⟨by omega, by omega, (nle (b := 57) (by omega) (by omega)).mp z⟩)]
theorem m_dig (N : Nat) {tl : Nat} {ch : Nat → Nat} {L T : Nat → Int32} (h : TP tl ch L T) {p lo : Nat} (hp : p ≤ tl) (hlo : lo ≤ 1) : fX8_isDigit N (nI tl) (nI p) T (nI lo) = some (b2i (decide (p < tl ∧ 48 + lo ≤ ch p ∧ ch p ≤ 57))) := by
  have h1 := h.1
  unfold fX8_isDigit
  by_cases q : tl ≤ p
  · rw [if_pos ((nle (by omega) (by omega)).mpr q), show decide (p < tl ∧ 48 + lo ≤ ch p ∧ ch p ≤ 57) = false by simp; omega]; rfl
  · obtain ⟨a1, a2, a3, a4⟩ := h.2 p (by omega)
    rw [if_neg (fun z => q ((nle (by omega) (by omega)).mp z)), ixb_nI (by omega), a4, m_in32, bnd_s, Int32.toInt_toInt64, show (48 : Int32) + nI lo = nI (48 + lo) from nI_add 48 lo, tI (48 + lo), tI (ch p), show (57 : Int64).toInt = 57 by decide, ite_b2i]
    by_cases hd : 48 + lo ≤ ch p ∧ ch p ≤ 57
    · rw [if_pos (by simp; omega), show decide (p < tl ∧ 48 + lo ≤ ch p ∧ ch p ≤ 57) = true by simp; omega]; rfl
    · rw [if_neg (by simp; omega), show decide (p < tl ∧ 48 + lo ≤ ch p ∧ ch p ≤ 57) = false by simp; omega]; rfl
/-- a letter stands there -/
def hit (tl : Nat) (ch : Nat → Nat) (p x : Nat) : Bool := decide (sk tl ch p < tl ∧ ch (sk tl ch p) = x)
theorem hit_iff {tl p x : Nat} {ch : Nat → Nat} : hit tl ch p x = true ↔ sk tl ch p < tl ∧ ch (sk tl ch p) = x := by unfold hit; simp
theorem c_let (N : Nat) (hN : 1000 ≤ N) {tl : Nat} {ch : Nat → Nat} {L T : Nat → Int32} (h : TP tl ch L T) {p x : Nat} (hp : p ≤ tl) (hx : x < 2 ^ 20) : fX6_readLetter N (nI tl) (nI p) L (nI x) = if hit tl ch p x then some (1, nI (sk tl ch p + 1)) else some (0, nI (sk tl ch p)) := by
  have h1 := h.1
  have hs := sk_le ch hp
  unfold fX6_readLetter
  rw [c_sk N hN h hp, bnd_s]
  by_cases q : tl ≤ sk tl ch p
  · rw [if_pos ((nle (by omega) (by omega)).mpr q), if_neg (fun z => by have := (hit_iff.mp z).1; omega)]
  · obtain ⟨a1, a2, a3, a4⟩ := h.2 (sk tl ch p) (by omega)
    rw [if_neg (fun z => q ((nle (by omega) (by omega)).mp z)), ixb_nI (by omega), a3, n_s1]
    by_cases e : ch (sk tl ch p) = x
    · rw [if_pos (by rw [e]), if_pos (hit_iff.mpr ⟨by omega, e⟩)]
    · rw [if_neg (fun z => e ((neq (by omega) (by omega)).mp z)), if_neg (fun z => e (hit_iff.mp z).2)]
theorem m_here (N : Nat) {tl : Nat} {ch : Nat → Nat} {L T : Nat → Int32} (h : TP tl ch L T) {p x : Nat} (hp : p ≤ tl) (hx : x < 2 ^ 20) : fX8_isHere N (nI tl) (nI p) T (nI x) = some (b2i (decide (p < tl ∧ ch p = x))) := by
  have h1 := h.1
  unfold fX8_isHere
  by_cases q : tl ≤ p
  · rw [if_pos ((nle (by omega) (by omega)).mpr q), show decide (p < tl ∧ ch p = x) = false by simp; omega]; rfl
  · obtain ⟨a1, a2, a3, a4⟩ := h.2 p (by omega)
    rw [if_neg (fun z => q ((nle (by omega) (by omega)).mp z)), ixb_nI (by omega), a4]
    by_cases e : ch p = x
    · rw [if_pos (by rw [e]), show decide (p < tl ∧ ch p = x) = true by simp; omega]; rfl
    · rw [if_neg (fun z => e ((neq (by omega) (by omega)).mp z)), show decide (p < tl ∧ ch p = x) = false by simp; omega]; rfl
theorem m_sign (N : Nat) (hN : 1000 ≤ N) {tl : Nat} {ch : Nat → Nat} {L T : Nat → Int32} (h : TP tl ch L T) {p x : Nat} (hp : p ≤ tl) (hx : x < 2 ^ 20) : fX8_sign N (nI tl) (nI (sk tl ch p)) T (nI x) = if hit tl ch p x then some (1, nI (sk tl ch (sk tl ch p + 1))) else some (0, nI (sk tl ch p)) := by
  have h1 := h.1
  have hs := sk_le ch hp
  unfold fX8_sign
  rw [m_here N h hs hx, bnd_s, ite_b2i]
  by_cases q : hit tl ch p x = true
  · have e : decide (sk tl ch p < tl ∧ ch (sk tl ch p) = x) = true := q
    rw [e, if_pos rfl, if_pos q, n_s1, m_sk N hN h (show sk tl ch p + 1 ≤ tl from (hit_iff.mp q).1), bnd_s, zb_b]; rfl
  · have e : decide (sk tl ch p < tl ∧ ch (sk tl ch p) = x) = false := by
      have : hit tl ch p x = false := by simpa using q
      exact this
    rw [e, if_neg (by decide), if_neg q, zb_b]; rfl
/-! numbers -/
/-- both fail at q; or both read v; or a third digit stands at the boat's place -/
def NUMR (tl : Nat) (ch : Nat → Nat) (g : Nat) (o o' : Int32 × Int32 × Int32) : Prop :=
  (∃ q, q ≤ tl ∧ o.1 = 0 ∧ o.2.1 = nI q ∧ o'.1 = 0 ∧ o'.2.1 = nI q) ∨ (∃ v p, v ≤ g ∧ p ≤ tl ∧ o = (1, nI p, nI v) ∧ o' = (1, nI (sk tl ch p), nI v)) ∨ (∃ v p, v ≤ g ∧ dgt tl ch p ∧ o = (1, nI p, nI v) ∧ o'.1 = 0 ∧ o'.2.1 = nI p)
theorem num_co (N : Nat) (hN : 1000 ≤ N) {tl : Nat} {ch : Nat → Nat} {L T : Nat → Int32} (h : TP tl ch L T) {p g : Nat} (hp : p ≤ tl) (hg : g ≤ 99) (nu nu' : Int32) : ∃ o o', fX6_readNumber N (nI tl) (nI p) nu L (nI g) = some o ∧ fX8_readsNumber N (nI tl) (nI (sk tl ch p)) nu' T (nI g) = some o' ∧ NUMR tl ch g o o' := by
  have h1 := h.1
  have hs := sk_le ch hp
  obtain ⟨n, rfl⟩ : ∃ n, N = n + 3 := ⟨N - 3, by omega⟩
  generalize ea : sk tl ch p = a at hs ⊢
  have e2 : nI a + 2 = nI (a + 2) := nI_add a 2
  have dd : ∀ x, x ≤ tl → fX8_isDigit (n + 3) (nI tl) (nI x) T 0 = some (b2i (decide (x < tl ∧ 48 + 0 ≤ ch x ∧ ch x ≤ 57))) := fun x hx => m_dig (n + 3) h hx (lo := 0) (by omega)
  unfold fX6_readNumber fX8_readsNumber
  rw [c_sk (n + 3) hN h hp, ea, bnd_s, fX8_readsNumber_L10, e2, if_neg (show ¬ nI (a + 2) ≤ nI a from fun z => by have := (nle (by omega) (by omega)).mp z; omega), dd a hs, bnd_s, ite_b2i]
  simp only [decide_eq_true_eq]
  by_cases d0 : dgt tl ch a
  · obtain ⟨x1, x2, x3⟩ := id d0
    obtain ⟨a1, a2, a3, a4⟩ := h.2 a x1
    have em : (10 : Int32) * 0 + T a - 48 = nI (ch a - 48) := by
      rw [a4, show (10 : Int32) * 0 = nI 0 by decide, nI_add, Nat.zero_add]; exact n_sub (b := 48) x2
    rw [if_pos (show a < tl ∧ 48 + 0 ≤ ch a ∧ ch a ≤ 57 by omega), ixb_nI (by omega), em, c_dig_t (n + 3) h d0, bnd_s, bnd_s, if_pos (nI_pos' (by omega)), n_s1, fX8_readsNumber_L10, e2, if_neg (show ¬ nI (a + 2) ≤ nI (a + 1) from fun z => by have := (nle (by omega) (by omega)).mp z; omega), dd (a + 1) (by omega), bnd_s, ite_b2i]
    simp only [decide_eq_true_eq]
    by_cases d1 : dgt tl ch (a + 1)
    · obtain ⟨y1, y2, y3⟩ := id d1
      obtain ⟨b1, b2, b3, b4⟩ := h.2 (a + 1) y1
      have em2 : (10 : Int32) * nI (ch a - 48) + T (a + 1) - 48 = nI (10 * (ch a - 48) + (ch (a + 1) - 48)) := by
        rw [b4, show (10 : Int32) = nI 10 from rfl, n_mul, nI_add, show nI (10 * (ch a - 48) + ch (a + 1)) - 48 = nI (10 * (ch a - 48) + ch (a + 1) - 48) from n_sub (b := 48) (by omega)]
        congr 1; omega
      have ec : nI (ch a - 48) * 10 + nI (ch (a + 1) - 48) = nI (10 * (ch a - 48) + (ch (a + 1) - 48)) := by
        rw [show (10 : Int32) = nI 10 from rfl, n_mul, nI_add, Nat.mul_comm]
      rw [if_pos (show a + 1 < tl ∧ 48 + 0 ≤ ch (a + 1) ∧ ch (a + 1) ≤ 57 by omega), ixb_nI (by omega), em2, c_dig_t (n + 3) h d1, bnd_s, bnd_s, if_neg (nI_pos (by omega)), n_s1, fX8_readsNumber_L10, e2, if_pos (show nI (a + 2) ≤ nI (a + 1 + 1) from (nle (by omega) (by omega)).mpr (Nat.le_refl _)), bnd_s, ec, if_neg (show ¬ nI (a + 1 + 1) = nI a from fun z => by have := (neq (by omega) (by omega)).mp z; omega)]
      by_cases qg : 10 * (ch a - 48) + (ch (a + 1) - 48) ≤ g
      · have qg' : nI (10 * (ch a - 48) + (ch (a + 1) - 48)) ≤ nI g := (nle (by omega) (by omega)).mpr qg
        rw [if_pos qg', if_pos qg', dd (a + 1 + 1) (by omega), bnd_s, ite_b2i]
        simp only [decide_eq_true_eq]
        by_cases d2 : dgt tl ch (a + 1 + 1)
        · rw [if_pos (show a + 1 + 1 < tl ∧ 48 + 0 ≤ ch (a + 1 + 1) ∧ ch (a + 1 + 1) ≤ 57 by have := d2.1; have := d2.2; omega)]
          exact ⟨_, _, rfl, rfl, Or.inr (Or.inr ⟨_, _, qg, d2, rfl, rfl, rfl⟩)⟩
        · rw [if_neg (show ¬ (a + 1 + 1 < tl ∧ 48 + 0 ≤ ch (a + 1 + 1) ∧ ch (a + 1 + 1) ≤ 57) from fun z => d2 ⟨z.1, by omega, z.2.2⟩), m_sk (n + 3) hN h (by omega), bnd_s]
          exact ⟨_, _, rfl, rfl, Or.inr (Or.inl ⟨_, a + 1 + 1, qg, by omega, rfl, rfl⟩)⟩
      · have qg' : ¬ nI (10 * (ch a - 48) + (ch (a + 1) - 48)) ≤ nI g := fun z => qg ((nle (by omega) (by omega)).mp z)
        rw [if_neg qg', if_neg qg']
        exact ⟨_, _, rfl, rfl, Or.inl ⟨a, hs, rfl, rfl, rfl, rfl⟩⟩
    · rw [if_neg (show ¬ (a + 1 < tl ∧ 48 + 0 ≤ ch (a + 1) ∧ ch (a + 1) ≤ 57) from fun z => d1 ⟨z.1, by omega, z.2.2⟩), c_dig_f (n + 3) h (by omega) d1, bnd_s, if_pos (by decide), bnd_s, if_neg (show ¬ nI (a + 1) = nI a from fun z => by have := (neq (by omega) (by omega)).mp z; omega)]
      by_cases qg : ch a - 48 ≤ g
      · have qg' : nI (ch a - 48) ≤ nI g := (nle (by omega) (by omega)).mpr qg
        rw [if_pos qg', if_pos qg', dd (a + 1) (by omega), bnd_s, ite_b2i]
        simp only [decide_eq_true_eq]
        rw [if_neg (show ¬ (a + 1 < tl ∧ 48 + 0 ≤ ch (a + 1) ∧ ch (a + 1) ≤ 57) from fun z => d1 ⟨z.1, by omega, z.2.2⟩), m_sk (n + 3) hN h (by omega), bnd_s]
        exact ⟨_, _, rfl, rfl, Or.inr (Or.inl ⟨_, a + 1, qg, by omega, rfl, rfl⟩)⟩
      · have qg' : ¬ nI (ch a - 48) ≤ nI g := fun z => qg ((nle (by omega) (by omega)).mp z)
        rw [if_neg qg', if_neg qg']
        exact ⟨_, _, rfl, rfl, Or.inl ⟨a, hs, rfl, rfl, rfl, rfl⟩⟩
  · rw [if_neg (show ¬ (a < tl ∧ 48 + 0 ≤ ch a ∧ ch a ≤ 57) from fun z => d0 ⟨z.1, by omega, z.2.2⟩), c_dig_f (n + 3) h hs d0, bnd_s, if_neg (show ¬ (0 : Int32) ≤ -1 by decide), bnd_s, if_pos rfl]
    exact ⟨_, _, rfl, rfl, Or.inl ⟨a, hs, rfl, rfl, rfl, rfl⟩⟩
