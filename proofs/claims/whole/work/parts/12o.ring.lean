/-! PURE: marks -/
def aAh (nc : Nat) (m : AM) : Nat := if nc ≤ m.1 then 0 else m.2.2.2.1 m.1
theorem aAh_le {nc np ns T : Nat} {m : AM} (h : MBD nc np ns T m) : aAh nc m ≤ 60 := by
  unfold aAh
  split
  · omega
  · exact h.2.2.2.1 m.1 (by have := h.1; omega)
def mkj (v : Nat) (ju : Nat → Nat) : Nat → Nat
  | 0 => v
  | j + 1 => mkj v ju j * 32 + ju j
theorem mkj_inj {v v' : Nat} {ju ju' : Nat → Nat} : ∀ n, (∀ j, j < n → ju j < 32 ∧ ju' j < 32) → (mkj v ju n = mkj v' ju' n ↔ (v = v' ∧ ∀ j, j < n → ju j = ju' j))
  | 0, _ => ⟨fun h => ⟨h, fun j hj => absurd hj (Nat.not_lt_zero _)⟩, fun h => h.1⟩
  | n + 1, hb => by
    have i := mkj_inj (v := v) (v' := v') (ju := ju) (ju' := ju') n (fun j hj => hb j (by omega))
    have hn := hb n (by omega)
    have e1 : mkj v ju (n + 1) = mkj v ju n * 32 + ju n := rfl
    have e2 : mkj v' ju' (n + 1) = mkj v' ju' n * 32 + ju' n := rfl
    rw [e1, e2]
    constructor
    · intro h
      have h1 : mkj v ju n = mkj v' ju' n := by omega
      have h2 : ju n = ju' n := by omega
      refine ⟨(i.mp h1).1, fun j hj => ?_⟩
      by_cases q : j = n
      · rw [q]; exact h2
      · exact (i.mp h1).2 j (by omega)
    · intro h
      rw [i.mpr ⟨h.1, fun j hj => h.2 j (by omega)⟩, h.2 n (by omega)]
theorem mkj_lt {v : Nat} {ju : Nat → Nat} (hv : v < 2 ^ 10) : ∀ n, (∀ j, j < n → ju j < 32) → mkj v ju n < 2 ^ (10 + 5 * n)
  | 0, _ => hv
  | n + 1, hb => by
    have i := mkj_lt (ju := ju) hv n (fun j hj => hb j (by omega))
    have hn := hb n (by omega)
    have e1 : mkj v ju (n + 1) = mkj v ju n * 32 + ju n := rfl
    have e2 : 2 ^ (10 + 5 * (n + 1)) = 2 ^ (10 + 5 * n) * 32 := by rw [show 10 + 5 * (n + 1) = (10 + 5 * n) + 5 by omega, Nat.pow_add]
    rw [e1, e2]
    omega
def amk (nc ns : Nat) (m : AM) : Nat := mkj (m.1 * 64 + aAh nc m) m.2.2.2.2.1 ns * 2 + m.2.1 % 2
def kEq (nc ns : Nat) (m m' : AM) : Prop := m.1 = m'.1 ∧ aAh nc m = aAh nc m' ∧ m.2.1 % 2 = m'.2.1 % 2 ∧ ∀ j, j < ns → m.2.2.2.2.1 j = m'.2.2.2.2.1 j
theorem amk_lt {nc np ns T : Nat} {m : AM} (h12 : nc ≤ 12) (h5 : ns ≤ 5) (h : MBD nc np ns T m) : amk nc ns m < 2 ^ 40 := by
  have h1 := h.1
  have h2 := aAh_le h
  have := mkj_lt (v := m.1 * 64 + aAh nc m) (ju := m.2.2.2.2.1) (by omega) ns (fun j hj => by have := (h.2.2.2.2 j hj).1; omega)
  have hp : 2 ^ (10 + 5 * ns) ≤ 2 ^ 35 := Nat.pow_le_pow_right (by decide) (by omega)
  unfold amk
  omega
theorem amk_eq {nc np ns T T' : Nat} {m m' : AM} (h12 : nc ≤ 12) (h5 : ns ≤ 5) (h : MBD nc np ns T m) (h' : MBD nc np ns T' m') : amk nc ns m = amk nc ns m' ↔ kEq nc ns m m' := by
  have a2 := aAh_le h
  have b2 := aAh_le h'
  have i := mkj_inj (v := m.1 * 64 + aAh nc m) (v' := m'.1 * 64 + aAh nc m') (ju := m.2.2.2.2.1) (ju' := m'.2.2.2.2.1) ns (fun j hj => by have := (h.2.2.2.2 j hj).1; have := (h'.2.2.2.2 j hj).1; omega)
  unfold amk kEq
  constructor
  · intro e
    have e1 := i.mp (show _ = _ by omega)
    exact ⟨by omega, by omega, by omega, e1.2⟩
  · intro e
    rw [i.mpr ⟨by omega, e.2.2.2⟩, e.2.2.1]
theorem lN_eq' {a b : Nat} (ha : a < 2 ^ 40) (hb : b < 2 ^ 40) : lN a = lN b ↔ a = b := by
  constructor
  · intro h
    have := congrArg Int64.toInt h
    rw [show (lN a).toInt = a from lg_ofNat_toInt (by omega), show (lN b).toInt = b from lg_ofNat_toInt (by omega)] at this
    omega
  · intro h; rw [h]
theorem c_mark_L (N : Nat) {ns v : Nat} {ju : Nat → Nat} {juice : Nat → Int32} (h5 : ns ≤ 5) (hj : ∀ j, j < ns → juice j = nI (ju j) ∧ ju j ≤ 20) : ∀ (n j : Nat), j ≤ ns → ns - j < n → fX1_mark_L26 N juice (nI ns) n (lN (mkj v ju j)) (nI j) = some (lN (mkj v ju ns), nI ns) := by
  intro n
  induction n with
  | zero => intro j h1 h2; omega
  | succ n ih =>
    intro j h1 h2
    rw [fX1_mark_L26]
    by_cases he : j = ns
    · subst he; rw [if_pos ((nle (by omega) (by omega)).mpr (Nat.le_refl _))]
    · have hb := hj j (by omega)
      rw [if_neg (fun z => by have := (nle (by omega) (by omega)).mp z; omega), ixb_nI (by omega), hb.1, nI_l (by omega), show (32 : Int64) = lN 32 from rfl, lN_mul, lN_add, n_s1]
      exact ih (j + 1) (by omega) (by omega)
theorem c_mark (N : Nat) (hN : 1000 ≤ N) {nc np ns T : Nat} {m : AM} {boat minute draw : Int32} {ice juice fors : Nat → Int32} (h12 : nc ≤ 12) (h5 : ns ≤ 5) (hT : T ≤ 20000) (hb : MBD nc np ns T m) (h : CMO nc ns m boat minute draw ice juice fors) : fX1_mark N boat minute ice juice (nI nc) (nI ns) = some (lN (amk nc ns m)) := by
  have h1 := hb.1
  have h2 := hb.2.1
  have ha := aAh_le hb
  unfold fX1_mark
  rw [c_ahead N h12 hb h, bnd_s, show (if nc ≤ m.1 then 0 else m.2.2.2.1 m.1) = aAh nc m from rfl, h.1, nI_l (by omega), nI_l (by omega), show (64 : Int64) = lN 64 from rfl, lN_mul, lN_add]
  have l := c_mark_L N (v := m.1 * 64 + aAh nc m) (ju := m.2.2.2.2.1) (juice := juice) h5 (fun j hj => ⟨(h.2.2.2.2 j hj).1, (hb.2.2.2.2 j hj).1⟩) N 0 (by omega) (by omega)
  rw [show mkj (m.1 * 64 + aAh nc m) m.2.2.2.2.1 0 = m.1 * 64 + aAh nc m from rfl, show (nI 0 : Int32) = 0 from rfl] at l
  rw [l, bnd_s, h.2.1, c_even N (by omega), bnd_s, ite_b2i]
  simp only [decide_eq_true_eq]
  unfold amk
  by_cases q : m.2.1 % 2 = 0
  · rw [if_pos q, q, show (Int32.toInt64 0) = lN 0 from rfl, show (2 : Int64) = lN 2 from rfl, lN_mul, lN_add]
  · rw [if_neg q, show m.2.1 % 2 = 1 by omega, show (Int32.toInt64 1) = lN 1 from rfl, show (2 : Int64) = lN 2 from rfl, lN_mul, lN_add]
/-! the reference's -/
def SK (nc ns : Nat) (row : Nat → Int32) (i : Nat) (m : AM) (seen : Nat → Int32) : Prop := seen (7 * i) = nI m.1 ∧ seen (7 * i + 1) = nI (2 * aAh nc m + m.2.1 % 2) ∧ ∀ j, j < 5 → seen (7 * i + 2 + j) = if j < ns then nI (m.2.2.2.2.1 j) else row (15 + j)
theorem sk_eq {nc np ns T T' : Nat} {row seen : Nat → Int32} {i i' : Nat} {m m' : AM} (h12 : nc ≤ 12) (h : MBD nc np ns T m) (h' : MBD nc np ns T' m') (s : SK nc ns row i m seen) (s' : SK nc ns row i' m' seen) (hns : ns ≤ 5) : (∀ k, k < 7 → seen (7 * i + k) = seen (7 * i' + k)) ↔ kEq nc ns m m' := by
  have a2 := aAh_le h
  have b2 := aAh_le h'
  have a1 := h.1
  have b1 := h'.1
  constructor
  · intro e
    have e0 := e 0 (by omega)
    have e1 := e 1 (by omega)
    rw [Nat.add_zero, Nat.add_zero, s.1, s'.1] at e0
    rw [s.2.1, s'.2.1] at e1
    have e0 := (neq (by omega) (by omega)).mp e0
    have e1 := (neq (by omega) (by omega)).mp e1
    refine ⟨e0, by omega, by omega, fun j hj => ?_⟩
    have ej := e (2 + j) (by omega)
    rw [← Nat.add_assoc, ← Nat.add_assoc, s.2.2 j (by omega), s'.2.2 j (by omega), if_pos hj, if_pos hj] at ej
    have := (h.2.2.2.2 j hj).1
    have := (h'.2.2.2.2 j hj).1
    exact (neq (by omega) (by omega)).mp ej
  · intro e k hk
    have hc : k = 0 ∨ k = 1 ∨ ∃ j, j < 5 ∧ k = 2 + j := by
      by_cases q0 : k = 0
      · exact Or.inl q0
      · by_cases q1 : k = 1
        · exact Or.inr (Or.inl q1)
        · exact Or.inr (Or.inr ⟨k - 2, by omega, by omega⟩)
    rcases hc with rfl | rfl | ⟨j, hj, rfl⟩
    · rw [Nat.add_zero, Nat.add_zero, s.1, s'.1, e.1]
    · rw [s.2.1, s'.2.1, e.2.1, e.2.2.1]
    · rw [← Nat.add_assoc, ← Nat.add_assoc, s.2.2 j hj, s'.2.2 j hj]
      by_cases q : j < ns
      · rw [if_pos q, if_pos q, e.2.2.2 j q]
      · rw [if_neg q, if_neg q]
theorem m_alike_L (N : Nat) {a b : Nat} (ha : a ≤ 200) (hb : b ≤ 200) {seen : Nat → Int32} : ∀ (n x : Nat) (t : Bool), x ≤ 7 → 7 - x < n → ∃ t', fX8_areAlike_L5 N (nI a) (nI b) seen n (b2i t) (nI x) = some (b2i t', nI 7) ∧ (t' = true ↔ (t = true ∧ ∀ k, x ≤ k → k < 7 → seen (7 * a + k) = seen (7 * b + k))) := by
  intro n
  induction n with
  | zero => intro x t h1 h2; omega
  | succ n ih =>
    intro x t h1 h2
    rw [fX8_areAlike_L5]
    by_cases he : x = 7
    · subst he
      exact ⟨t, if_pos (show (7 : Int32) ≤ nI 7 by decide), ⟨fun h => ⟨h, fun k h1 h2 => absurd h1 (by omega)⟩, fun h => h.1⟩⟩
    · have q : ¬ (7 : Int32) ≤ nI x := fun z => by have := (nle (a := 7) (by omega) (by omega)).mp z; omega
      rw [if_neg q, n_s1]
      cases t
      · obtain ⟨t', i1, i2⟩ := ih (x + 1) false (by omega) (by omega)
        exact ⟨t', (if_pos rfl).trans i1, i2.trans ⟨fun h => absurd h.1 (by simp), fun h => absurd h.1 (by simp)⟩⟩
      · have ea : (7 : Int32) * nI a + nI x = nI (7 * a + x) := by rw [show (7 : Int32) = nI 7 from rfl, n_mul, nI_add]
        have eb : (7 : Int32) * nI b + nI x = nI (7 * b + x) := by rw [show (7 : Int32) = nI 7 from rfl, n_mul, nI_add]
        rw [if_neg (show ¬ b2i true = 0 by decide), ea, eb, ixb_nI (by omega), ixb_nI (by omega)]
        by_cases qe : seen (7 * a + x) = seen (7 * b + x)
        · obtain ⟨t', i1, i2⟩ := ih (x + 1) true (by omega) (by omega)
          refine ⟨t', (if_pos qe).trans i1, i2.trans ⟨fun h => ⟨rfl, fun k k1 k2 => ?_⟩, fun h => ⟨rfl, fun k k1 k2 => h.2 k (by omega) k2⟩⟩⟩
          by_cases qk : k = x
          · rw [qk]; exact qe
          · exact h.2 k (by omega) k2
        · obtain ⟨t', i1, i2⟩ := ih (x + 1) false (by omega) (by omega)
          exact ⟨t', (if_neg qe).trans i1, i2.trans ⟨fun h => absurd h.1 (by simp), fun h => absurd (h.2 x (by omega) (by omega)) qe⟩⟩
theorem m_alike (N : Nat) (hN : 1000 ≤ N) {a b : Nat} (ha : a ≤ 200) (hb : b ≤ 200) {seen : Nat → Int32} : ∃ t, fX8_areAlike N seen (nI a) (nI b) = some (b2i t) ∧ (t = true ↔ ∀ k, k < 7 → seen (7 * a + k) = seen (7 * b + k)) := by
  obtain ⟨t, h1, h2⟩ := m_alike_L N ha hb (seen := seen) N 0 true (by omega) (by omega)
  refine ⟨t, ?_, h2.trans ⟨fun h k hk => h.2 k (by omega) hk, fun h => ⟨rfl, fun k _ hk => h k hk⟩⟩⟩
  unfold fX8_areAlike
  rw [show (1 : Int32) = b2i true from rfl, show (0 : Int32) = nI 0 from rfl, h1, bnd_s, zb_b]
theorem m_see_L (N : Nat) {i : Nat} (hi : i ≤ 200) {row : Nat → Int32} : ∀ (n x : Nat) (seen : Nat → Int32), x ≤ 5 → 5 - x < n → ∃ o, fX8_see_L50 N (nI i) row n (nI x) seen = some o ∧ (∀ j, x ≤ j → j < 5 → o.2 (7 * i + 2 + j) = row (499 + j)) ∧ ∀ q, (q < 7 * i + 2 + x ∨ 7 * i + 7 ≤ q) → o.2 q = seen q := by
  intro n
  induction n with
  | zero => intro x seen h1 h2; omega
  | succ n ih =>
    intro x seen h1 h2
    rw [fX8_see_L50]
    by_cases he : x = 5
    · subst he
      exact ⟨_, if_pos (show (5 : Int32) ≤ nI 5 by decide), fun j j1 j2 => absurd j1 (by omega), fun _ _ => rfl⟩
    · have q : ¬ (5 : Int32) ≤ nI x := fun z => by have := (nle (a := 5) (by omega) (by omega)).mp z; omega
      obtain ⟨o, i1, i2, i3⟩ := ih (x + 1) (upd seen (7 * i + 2 + x) (row (499 + x))) (by omega) (by omega)
      have ea : (7 : Int32) * nI i + 2 + nI x = nI (7 * i + 2 + x) := by rw [show (7 : Int32) = nI 7 from rfl, n_mul, show (2 : Int32) = nI 2 from rfl, nI_add, nI_add]
      refine ⟨o, (if_neg q).trans ?_, fun j j1 j2 => ?_, fun k hk => ?_⟩
      · rw [show (499 : Int32) + nI x = nI (499 + x) from nI_add 499 x, ixb_nI (by omega), ea, ixb_nI (by omega), n_s1]; exact i1
      · by_cases qj : j = x
        · subst qj; rw [i3 _ (by omega), upd_s]
        · exact i2 j (by omega) j2
      · rw [i3 k (by omega), upd_n (by omega)]
theorem m_see (N : Nat) (hN : 1000 ≤ N) {nc np ns T i : Nat} {m : AM} {row row0 seen : Nat → Int32} (h12 : nc ≤ 12) (h5 : ns ≤ 5) (hT : T ≤ 20000) (hi : i ≤ 200) (hb : MBD nc np ns T m) (e26 : row 26 = nI nc) (h : MOM nc ns 484 m row) (hc : ∀ j, ns ≤ j → j < 5 → row (499 + j) = row0 (15 + j)) : ∃ o, fX8_see N row seen (nI i) = some o ∧ SK nc ns row0 i m o ∧ ∀ q, (q < 7 * i ∨ 7 * i + 7 ≤ q) → o q = seen q := by
  have h2 := hb.2.1
  have ha := aAh_le hb
  have em := m_ahead N h12 (by omega) hb e26 h
  have e7 : (7 : Int32) * nI i = nI (7 * i) := by rw [show (7 : Int32) = nI 7 from rfl, n_mul]
  have e2 : irem (nI m.2.1) 2 = nI (m.2.1 % 2) := n_irem (d := 2) (by omega) (by omega) (by omega)
  have ev : (2 : Int32) * nI (aAh nc m) + nI (m.2.1 % 2) = nI (2 * aAh nc m + m.2.1 % 2) := by rw [show (2 : Int32) = nI 2 from rfl, n_mul, nI_add]
  obtain ⟨o, i1, i2, i3⟩ := m_see_L N hi (row := row) N 0 (upd (upd seen (7 * i) (nI m.1)) (7 * i + 1) (nI (2 * aAh nc m + m.2.1 % 2))) (by omega) (by omega)
  refine ⟨o.2, ?_, ⟨?_, ?_, fun j hj => ?_⟩, fun q hq => ?_⟩
  · unfold fX8_see
    rw [e7, n_s1, ixb_nI (by omega), show fX8_iceAhead N row 484 = some (nI (aAh nc m)) from em, bnd_s, ixb_nI (by omega), show row 484 = nI m.1 from h.1, show row 485 = nI m.2.1 from h.2.1, e2, ev, show (0 : Int32) = nI 0 from rfl, i1, bnd_s]
  · rw [i3 _ (by omega), upd_n (by omega), upd_s]
  · rw [i3 _ (by omega), upd_s]
  · rw [i2 j (by omega) hj]
    by_cases q : j < ns
    · rw [if_pos q]; exact (h.2.2.2.2 j q).1
    · rw [if_neg q]; exact hc j (by omega) hj
  · rw [i3 q (by omega), upd_n (by omega), upd_n (by omega)]
