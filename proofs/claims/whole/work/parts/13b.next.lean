/-! PURE: the reference's next row and next order -/
def LQ (n : Nat) (f : Nat → Nat) (line : Nat → Int32) : Prop := ∀ k, k < n → line k = nI (f k) ∧ f k < 100
theorem gd_map {n k : Nat} (g : Nat → Nat) (h : k < n) : ((List.range n).map g).getD k 0 = g k := by
  simp [List.getD, h]
theorem LQ.up {n k v : Nat} {f : Nat → Nat} {line : Nat → Int32} (h : LQ n f line) (hv : v < 100) : LQ n (fup f k v) (upd line k (nI v)) := by
  intro j hj
  unfold fup
  by_cases e : j = k
  · subst e; rw [upd_s, if_pos rfl]; exact ⟨rfl, hv⟩
  · rw [upd_n e, if_neg e]; exact h j hj
theorem nrK_le (ns : Nat) : ∀ k f, (nrK ns k f).1 ≤ k
  | 0, f => Nat.le_refl _
  | k + 1, f => by
    unfold nrK
    split
    · have := nrK_le ns k (fup f k 0); omega
    · exact Nat.le_refl _
theorem m_nr_L (N : Nat) {n ns : Nat} {x1 : Int32} {row : Nat → Int32} (hn : n ≤ 5) (h0 : 0 < ns) (h5 : ns ≤ 5) (e28 : row 28 = nI ns) : ∀ (k fu : Nat) (f : Nat → Nat) (line : Nat → Int32), k ≤ n → k < fu → LQ n f line → ∃ o, fX8_nextRow_L4 N x1 row fu (nI k - 1) line = some o ∧ o.1 = nI (nrK ns k f).1 - 1 ∧ LQ n (nrK ns k f).2 o.2 := by
  intro k
  induction k with
  | zero =>
    intro fu f line h1 h2 h
    obtain ⟨fu', rfl⟩ : ∃ fu', fu = fu' + 1 := ⟨fu - 1, by omega⟩
    rw [fX8_nextRow_L4]
    exact ⟨_, if_pos (show nI 0 - 1 < 0 by decide), rfl, h⟩
  | succ k ih =>
    intro fu f line h1 h2 h
    obtain ⟨fu', rfl⟩ : ∃ fu', fu = fu' + 1 := ⟨fu - 1, by omega⟩
    obtain ⟨lk, fk⟩ := h k (by omega)
    have eu : nrK ns (k + 1) f = if f k + 1 = ns then nrK ns k (fup f k 0) else (k + 1, f) := rfl
    rw [fX8_nextRow_L4, n_p1, if_neg (nI_pos (by omega)), ixb_nI (by omega), ixb_nI (by omega), lk, e28, show nI ns - 1 = nI (ns - 1) from n_sub (b := 1) h0, x_m1, eu]
    by_cases q : f k + 1 = ns
    · rw [if_pos q, if_pos ((neq (by omega) (by omega)).mpr (by omega))]
      exact ih fu' _ _ (by omega) (by omega) (h.up (v := 0) (by omega))
    · rw [if_neg q, if_neg (fun z => by have := (neq (by omega) (by omega)).mp z; omega)]
      exact ⟨_, rfl, (n_p1 k).symm, h⟩
theorem m_nextRow (N : Nat) (hN : 1000 ≤ N) {n ns : Nat} {row line : Nat → Int32} {l : List Nat} (hn : n ≤ 5) (h0 : 0 < ns) (h5 : ns ≤ 5) (e28 : row 28 = nI ns) (h : LQ n (fun j => l.getD j 0) line) : ∃ o, fX8_nextRow N row line (nI n) = some o ∧ ((nxR ns n l = none ∧ o.1 = 0) ∨ (∃ l', nxR ns n l = some l' ∧ o.1 = 1 ∧ ∀ k, k < n → o.2 k = nI (l'.getD k 0))) := by
  obtain ⟨o, g1, g2, g3⟩ := m_nr_L N (x1 := nI n) hn h0 h5 e28 n N _ line (Nat.le_refl _) (by omega) h
  have hk := nrK_le ns n (fun j => l.getD j 0)
  unfold fX8_nextRow nxR
  rw [g1, bnd_s, g2]
  by_cases q : (nrK ns n (fun j => l.getD j 0)).1 = 0
  · rw [if_pos q, q, if_pos (show nI 0 - 1 < 0 by decide)]
    exact ⟨_, rfl, Or.inl ⟨rfl, rfl⟩⟩
  · obtain ⟨k, ek⟩ : ∃ k, (nrK ns n (fun j => l.getD j 0)).1 = k + 1 := ⟨(nrK ns n (fun j => l.getD j 0)).1 - 1, by omega⟩
    obtain ⟨lk, fk⟩ := g3 k (by omega)
    rw [if_neg q, ek, n_p1, if_neg (nI_pos (show k < 2 ^ 31 by omega)), ixb_nI (by omega), ixb_nI (by omega), if_neg (nI_pos (show k < 2 ^ 31 by omega)), lk, n_s1, Nat.add_sub_cancel]
    refine ⟨_, rfl, Or.inr ⟨_, rfl, rfl, fun j hj => ?_⟩⟩
    rw [gd_map _ hj]
    unfold fup
    by_cases e : j = k
    · subst e; exact upd_s.trans (by rw [if_pos rfl])
    · refine (upd_n e).trans ?_; rw [if_neg e]; exact (g3 j hj).1
/-! next order -/
theorem noK_le (f : Nat → Nat) : ∀ k, noK f k ≤ k
  | 0 => Nat.le_refl _
  | k + 1 => by unfold noK; split <;> have := noK_le f k <;> omega
theorem noJ_le (f : Nat → Nat) (k : Nat) : ∀ j, noJ f k j ≤ j
  | 0 => Nat.le_refl _
  | j + 1 => by unfold noJ; split <;> have := noJ_le f k j <;> omega
theorem m_no_L (N : Nat) {n : Nat} {x1 : Int32} {f : Nat → Nat} {line : Nat → Int32} (hn : n ≤ 5) (h : LQ n f line) : ∀ (k fu : Nat), k < n → k < fu → fX8_nextOrder_L4 N x1 line fu (nI k - 1) = some (nI (noK f k) - 1) := by
  intro k
  induction k with
  | zero =>
    intro fu h1 h2
    obtain ⟨fu', rfl⟩ : ∃ fu', fu = fu' + 1 := ⟨fu - 1, by omega⟩
    rw [fX8_nextOrder_L4]
    exact if_pos (show nI 0 - 1 < 0 by decide)
  | succ k ih =>
    intro fu h1 h2
    obtain ⟨fu', rfl⟩ : ∃ fu', fu = fu' + 1 := ⟨fu - 1, by omega⟩
    obtain ⟨lk, fk⟩ := h k (by omega)
    obtain ⟨lk2, fk2⟩ := h (k + 1) h1
    have eu : noK f (k + 1) = if f k ≤ f (k + 1) then k + 1 else noK f k := rfl
    rw [fX8_nextOrder_L4, n_p1, if_neg (nI_pos (by omega)), n_s1, ixb_nI (by omega), ixb_nI (by omega), lk, lk2, x_m1, eu]
    by_cases q : f k ≤ f (k + 1)
    · rw [if_pos q, if_pos ((nle (by omega) (by omega)).mpr q), n_p1]
    · rw [if_neg q, if_neg (fun z => q ((nle (by omega) (by omega)).mp z))]
      exact ih fu' (by omega) (by omega)
theorem m_nj_L (N : Nat) {n k : Nat} {x1 : Int32} {f : Nat → Nat} {line : Nat → Int32} (hn : n ≤ 5) (h : LQ n f line) (hk : k < n) : ∀ (j fu : Nat), k ≤ j → j < n → j < fu → fX8_nextOrder_L41 N x1 (nI k) line fu (nI j) = some (nI (noJ f k j)) := by
  intro j
  induction j with
  | zero =>
    intro fu h1 h2 h3
    obtain ⟨fu', rfl⟩ : ∃ fu', fu = fu' + 1 := ⟨fu - 1, by omega⟩
    have e : k = 0 := by omega
    subst e
    rw [fX8_nextOrder_L41, ixb_nI (by omega), ixb_nI (by omega), if_pos (Int32.le_refl _)]; rfl
  | succ j ih =>
    intro fu h1 h2 h3
    obtain ⟨fu', rfl⟩ : ∃ fu', fu = fu' + 1 := ⟨fu - 1, by omega⟩
    obtain ⟨lk, fk⟩ := h k hk
    obtain ⟨lj, fj⟩ := h (j + 1) h2
    have eu : noJ f k (j + 1) = if f k ≤ f (j + 1) then j + 1 else noJ f k j := rfl
    rw [fX8_nextOrder_L41, ixb_nI (by omega), ixb_nI (by omega), lk, lj, eu, x_m1, n_p1]
    by_cases q : f k ≤ f (j + 1)
    · rw [if_pos q, if_pos ((nle (by omega) (by omega)).mpr q)]
    · rw [if_neg q, if_neg (fun z => q ((nle (by omega) (by omega)).mp z))]
      have : k ≠ j + 1 := fun z => q (by rw [z]; exact Nat.le_refl _)
      exact ih fu' (by omega) (by omega) (by omega)
theorem m_swap (N : Nat) {n a b : Nat} {f : Nat → Nat} {line : Nat → Int32} (hn : n ≤ 5) (h : LQ n f line) (ha : a < n) (hb : b < n) : ∃ o, fX8_swapLine N line (nI a) (nI b) = some o ∧ LQ n (fsw f a b) o := by
  obtain ⟨la, fa⟩ := h a ha
  obtain ⟨lb, fb⟩ := h b hb
  unfold fX8_swapLine
  simp only [ixb_nI (show a < 5 by omega), ixb_nI (show b < 5 by omega), la, lb]
  exact ⟨_, rfl, (h.up fb).up fa⟩
theorem m_rev_L (N : Nat) {n : Nat} {x1 x2 x3 : Int32} (hn : n ≤ 5) : ∀ (m fu a b : Nat) (f : Nat → Nat) (line : Nat → Int32), a ≤ n → b < n → b ≤ a + 2 * m → m < fu → LQ n f line → ∃ o, fX8_nextOrder_L78 N x1 x2 x3 fu (nI a) (nI b) line = some o ∧ LQ n (noR m a b f) o.2.2 := by
  intro m
  induction m with
  | zero =>
    intro fu a b f line h0 h1 h2 h3 h
    obtain ⟨fu', rfl⟩ : ∃ fu', fu = fu' + 1 := ⟨fu - 1, by omega⟩
    rw [fX8_nextOrder_L78]
    exact ⟨_, if_pos ((nle (by omega) (by omega)).mpr (by omega)), h⟩
  | succ m ih =>
    intro fu a b f line h0 h1 h2 h3 h
    obtain ⟨fu', rfl⟩ : ∃ fu', fu = fu' + 1 := ⟨fu - 1, by omega⟩
    have eu : noR (m + 1) a b f = if b ≤ a then f else noR m (a + 1) (b - 1) (fsw f a b) := rfl
    rw [fX8_nextOrder_L78, eu]
    by_cases q : b ≤ a
    · rw [if_pos q]
      exact ⟨_, if_pos ((nle (by omega) (by omega)).mpr q), h⟩
    · rw [if_neg q]
      obtain ⟨o, s1, s2⟩ := m_swap N hn h (show a < n by omega) h1
      rw [if_neg (fun z => q ((nle (by omega) (by omega)).mp z)), s1, bnd_s, x_m1, show nI b - 1 = nI (b - 1) from n_sub (b := 1) (by omega), n_s1]
      exact ih fu' (a + 1) (b - 1) _ _ (by omega) (by omega) (by omega) (by omega) s2
theorem m_nextOrder (N : Nat) (hN : 1000 ≤ N) {n : Nat} {line : Nat → Int32} {l : List Nat} (hn : n ≤ 5) (h0 : 0 < n) (h : LQ n (fun j => l.getD j 0) line) : ∃ o, fX8_nextOrder N line (nI n) = some o ∧ ((nxO n l = none ∧ o.1 = 0) ∨ (∃ l', nxO n l = some l' ∧ o.1 = 1 ∧ ∀ k, k < n → o.2 k = nI (l'.getD k 0))) := by
  have g1 := m_no_L N (x1 := nI n) hn h (n - 1) N (by omega) (by omega)
  have hk := noK_le (fun j => l.getD j 0) (n - 1)
  have e1 : nI n - 1 = nI (n - 1) := n_sub (b := 1) (by omega)
  have e2 : nI n - 2 = nI (n - 1) - 1 := by
    obtain ⟨n', rfl⟩ : ∃ n', n = n' + 1 := ⟨n - 1, by omega⟩
    have : ∀ n', n' < 5 → nI (n' + 1) - 2 = nI (n' + 1 - 1) - 1 := by decide +kernel
    exact this n' (by omega)
  unfold fX8_nextOrder nxO
  rw [e2, g1, bnd_s, e1]
  by_cases q : noK (fun j => l.getD j 0) (n - 1) = 0
  · rw [if_pos q, q, if_neg (show ¬ 0 ≤ nI 0 - 1 by decide)]
    exact ⟨_, rfl, Or.inl ⟨rfl, rfl⟩⟩
  · obtain ⟨k, ek⟩ : ∃ k, noK (fun j => l.getD j 0) (n - 1) = k + 1 := ⟨noK (fun j => l.getD j 0) (n - 1) - 1, by omega⟩
    have g2 := m_nj_L N (x1 := nI n) hn h (show k < n by omega) (n - 1) N (by omega) (by omega) (by omega)
    have hj := noJ_le (fun j => l.getD j 0) k (n - 1)
    obtain ⟨o1, s1, s2⟩ := m_swap N hn h (show k < n by omega) (show noJ (fun j => l.getD j 0) k (n - 1) < n by omega)
    obtain ⟨o2, r1, r2⟩ := m_rev_L N (x1 := nI n) (x2 := nI k) (x3 := nI (noJ (fun j => l.getD j 0) k (n - 1))) hn n N (k + 1) (n - 1) _ _ (by omega) (by omega) (by omega) (by omega) s2
    rw [if_neg q, ek, n_p1, if_pos (nI_pos' (show k < 2 ^ 31 by omega)), g2, bnd_s, s1, bnd_s, n_s1, r1, bnd_s, Nat.add_sub_cancel]
    refine ⟨_, rfl, Or.inr ⟨_, rfl, rfl, fun j hj => ?_⟩⟩
    rw [gd_map _ hj]
    exact (r2 j hj).1
