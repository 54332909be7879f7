/-! PURE: what both stand for -/
abbrev AC : Type := Nat × Nat × Nat × Nat × (Nat → Nat) × (Nat → Nat)
abbrev AM : Type := Nat × Nat × Nat × (Nat → Nat) × (Nat → Nat) × (Nat → Nat)
/-- bounds of a canal: cells, people, sayings, frost, kinds, weights -/
def CAB (nc np ns fr : Nat) (kd wt : Nat → Nat) : Prop := nc ≤ 12 ∧ np ≤ 6 ∧ ns ≤ 5 ∧ fr ≤ 9 ∧ ∀ p, p < np → kd p ≤ 4 ∧ 1 ≤ wt p ∧ wt p ≤ 9
def MBD (nc np ns T : Nat) (m : AM) : Prop := m.1 ≤ nc ∧ m.2.1 ≤ T ∧ m.2.2.1 < 2 ^ 31 ∧ (∀ j, j < nc → m.2.2.2.1 j ≤ 60) ∧ ∀ j, j < ns → m.2.2.2.2.1 j ≤ 20 ∧ m.2.2.2.2.2 j < 2 ^ np
def CMO (nc ns : Nat) (m : AM) (boat minute draw : Int32) (ice juice fors : Nat → Int32) : Prop := boat = nI m.1 ∧ minute = nI m.2.1 ∧ draw = nI m.2.2.1 ∧ (∀ j, j < nc → ice j = nI (m.2.2.2.1 j)) ∧ ∀ j, j < ns → juice j = nI (m.2.2.2.2.1 j) ∧ fors j = nI (m.2.2.2.2.2 j)
def MOM (nc ns base : Nat) (m : AM) (row : Nat → Int32) : Prop := row base = nI m.1 ∧ row (base + 1) = nI m.2.1 ∧ row (base + 2) = nI m.2.2.1 ∧ (∀ j, j < nc → row (base + 3 + j) = nI (m.2.2.2.1 j)) ∧ ∀ j, j < ns → row (base + 15 + j) = nI (m.2.2.2.2.1 j) ∧ row (base + 20 + j) = nI (m.2.2.2.2.2 j)
def CCA (nc np ns fr : Nat) (kd wt : Nat → Nat) (cells people sayings frost : Int32) (kind weight : Nat → Int32) : Prop := cells = nI nc ∧ people = nI np ∧ sayings = nI ns ∧ frost = nI fr ∧ ∀ p, p < np → kind p = nI (kd p) ∧ weight p = nI (wt p)
def MCA (nc np ns fr : Nat) (kd wt : Nat → Nat) (row : Nat → Int32) : Prop := row 25 = nI fr ∧ row 26 = nI nc ∧ row 27 = nI np ∧ row 28 = nI ns ∧ ∀ p, p < np → row (29 + p) = nI (kd p) ∧ row (35 + p) = nI (wt p)
def hix (x k i : Nat) : Nat := (x + 8 - k + i) % 8
def SNB (c : AC) (m : AM) (k : Nat) (h : Nat → AM) : Prop := CAB c.1 c.2.1 c.2.2.1 c.2.2.2.1 c.2.2.2.2.1 c.2.2.2.2.2 ∧ MBD c.1 c.2.1 c.2.2.1 9999 m ∧ k ≤ 8 ∧ ∀ i, i < k → MBD c.1 c.2.1 c.2.2.1 9999 (h i)
def SNC (c : AC) (m : AM) (k : Nat) (h : Nat → AM) (C : BV_canal) (Y : BV_history) : Prop :=
  CCA c.1 c.2.1 c.2.2.1 c.2.2.2.1 c.2.2.2.2.1 c.2.2.2.2.2 C.1 C.2.1 C.2.2.1 C.2.2.2.1 C.2.2.2.2.1 C.2.2.2.2.2.1 ∧ CMO c.1 c.2.2.1 m C.2.2.2.2.2.2.1 C.2.2.2.2.2.2.2.1 C.2.2.2.2.2.2.2.2.1 C.2.2.2.2.2.2.2.2.2.1 C.2.2.2.2.2.2.2.2.2.2.1 C.2.2.2.2.2.2.2.2.2.2.2 ∧
  Y.2.1 = nI k ∧ ∃ x, x < 8 ∧ Y.1 = nI x ∧ ∀ i, i < k → CMO c.1 c.2.2.1 (h i) (Y.2.2.1 (hix x k i)) (Y.2.2.2.1 (hix x k i)) (Y.2.2.2.2.1 (hix x k i)) (Y.2.2.2.2.2.1 (hix x k i)) (Y.2.2.2.2.2.2.1 (hix x k i)) (Y.2.2.2.2.2.2.2 (hix x k i))
def SNM (c : AC) (m : AM) (k : Nat) (h : Nat → AM) (row : Nat → Int32) : Prop := MCA c.1 c.2.1 c.2.2.1 c.2.2.2.1 c.2.2.2.2.1 c.2.2.2.2.2 row ∧ MOM c.1 c.2.2.1 0 m row ∧ row 41 = nI k ∧ ∀ i, i < k → MOM c.1 c.2.2.1 (42 + 25 * i) (h i) row
/-- a canal with its past, kept in step -/
def RC (C : BV_canal) (Y : BV_history) (row : Nat → Int32) : Prop := ∃ (c : AC) (m : AM) (k : Nat) (h : Nat → AM), SNB c m k h ∧ SNC c m k h C Y ∧ SNM c m k h row
def RI (C : BV_canal) (Y : BV_history) (has kept : Int32) (row : Nat → Int32) : Prop := has = kept ∧ (has = 0 ∨ (has = 1 ∧ RC C Y (fun j => row (242 + j))))
def RT (T : BV_tape) (length : Int32) (tape : Nat → Int32) : Prop := ∃ tl : Nat, tl ≤ 110 ∧ T.1 = nI tl ∧ length = nI tl ∧ ∀ j, j < tl → ∃ v : Nat, 32 ≤ v ∧ v ≤ 126 ∧ T.2.2.2 j = nI v ∧ tape j = nI v
def RD (D : BV_read) : Prop := D.2.2.2.2.2.2.1 = 0 ∧ D.2.2.2.2.2.2.2.1 = 0
def RSh (Z : BV_sheets) (lanes sizes : Nat → Int32) (items : Nat → Int64) : Prop := ∀ q, q < 4 → Z.1 q = lanes q ∧ Z.2.1 q = sizes q ∧ (∃ l : Nat, l < 4 ∧ lanes q = nI l) ∧ (sizes q = -1 ∨ ∃ n : Nat, n ≤ 24 ∧ sizes q = nI n) ∧ ∀ j, j < 24 → Z.2.2 q j = items (24 * q + j)
def Rel (S : BV) (M : MMV) : Prop := RC S.1 S.2.1 M.2.2.2.2.2.2.2.2.2.1 ∧ RI S.2.2.1 S.2.2.2.1 S.2.2.2.2.1 M.1 M.2.2.2.2.2.2.2.2.2.1 ∧ RT S.2.2.2.2.2.1 M.2.1 M.2.2.2.2.2.2.2.2.2.2.2.2.2.1 ∧ RD S.2.2.2.2.2.2.1 ∧ RSh S.2.2.2.2.2.2.2.2.2 M.2.2.2.2.2.2.2.2.2.2.1 M.2.2.2.2.2.2.2.2.2.2.2.1 M.2.2.2.2.2.2.2.2.2.2.2.2.1
theorem RI.keep {C : BV_canal} {Y : BV_history} {has kept : Int32} {row row' : Nat → Int32} (h : RI C Y has kept row) (e : ∀ j, 242 ≤ j → j < 484 → row' j = row j) : RI C Y has kept row' := by
  refine ⟨h.1, h.2.imp id (fun q => ⟨q.1, ?_⟩)⟩
  obtain ⟨c, m, k, hh, hB, hC, hM⟩ := q.2
  have h12 := hB.1.1
  have h6 := hB.1.2.1
  have h5 := hB.1.2.2.1
  have h8 := hB.2.2.1
  have mo : ∀ (base : Nat) (m : AM), base ≤ 217 → MOM c.1 c.2.2.1 base m (fun j => row (242 + j)) → MOM c.1 c.2.2.1 base m (fun j => row' (242 + j)) := by
    intro base m hb ⟨a1, a2, a3, a4, a5⟩
    exact ⟨(e _ (by omega) (by omega)).trans a1, (e _ (by omega) (by omega)).trans a2, (e _ (by omega) (by omega)).trans a3, fun j hj => (e _ (by omega) (by omega)).trans (a4 j hj), fun j hj => ⟨(e _ (by omega) (by omega)).trans (a5 j hj).1, (e _ (by omega) (by omega)).trans (a5 j hj).2⟩⟩
  obtain ⟨⟨b1, b2, b3, b4, b5⟩, hm, hk, hp⟩ := hM
  exact ⟨c, m, k, hh, hB, hC, ⟨(e _ (by omega) (by omega)).trans b1, (e _ (by omega) (by omega)).trans b2, (e _ (by omega) (by omega)).trans b3, (e _ (by omega) (by omega)).trans b4, fun p hp => ⟨(e _ (by omega) (by omega)).trans (b5 p hp).1, (e _ (by omega) (by omega)).trans (b5 p hp).2⟩⟩, mo 0 m (by omega) hm, (e _ (by omega) (by omega)).trans hk, fun i hi => mo _ _ (by omega) (hp i hi)⟩
theorem PR.of {nc np ns fr : Nat} {kd wt : Nat → Nat} {cells people sayings frost : Int32} {kind weight : Nat → Int32} (h : CAB nc np ns fr kd wt) (g : CCA nc np ns fr kd wt cells people sayings frost kind weight) : PR np kd wt kind weight := ⟨h.2.1, fun p hp => ⟨(g.2.2.2.2 p hp).1, (g.2.2.2.2 p hp).2, h.2.2.2.2 p hp⟩⟩
theorem QR.of {nc np ns fr : Nat} {kd wt : Nat → Nat} {row : Nat → Int32} (h : CAB nc np ns fr kd wt) (g : MCA nc np ns fr kd wt row) : QR np kd wt row := ⟨h.2.1, g.2.2.1, fun p hp => ⟨(g.2.2.2.2 p hp).1, (g.2.2.2.2 p hp).2, h.2.2.2.2 p hp⟩⟩
theorem SR.of {nc np ns fr T : Nat} {kd wt : Nat → Nat} {m : AM} {boat minute draw : Int32} {ice juice fors : Nat → Int32} (h : CAB nc np ns fr kd wt) (b : MBD nc np ns T m) (g : CMO nc ns m boat minute draw ice juice fors) : SR ns np m.2.2.2.2.1 m.2.2.2.2.2 juice fors := ⟨h.2.2.1, h.2.1, fun s hs => ⟨(g.2.2.2.2 s hs).1, (g.2.2.2.2 s hs).2, (b.2.2.2.2 s hs).1, (b.2.2.2.2 s hs).2⟩⟩
theorem TR.of {nc np ns fr T base : Nat} {kd wt : Nat → Nat} {m : AM} {row : Nat → Int32} (h : CAB nc np ns fr kd wt) (b : MBD nc np ns T m) (c : MCA nc np ns fr kd wt row) (hb : base ≤ 484) (g : MOM nc ns base m row) : TR base ns np m.2.2.2.2.1 m.2.2.2.2.2 row := ⟨hb, h.2.2.1, c.2.2.2.1, fun s hs => ⟨(g.2.2.2.2 s hs).1, (g.2.2.2.2 s hs).2, (b.2.2.2.2 s hs).1, (b.2.2.2.2 s hs).2⟩⟩
/-! PURE: ranges -/
theorem m_in (N : Nat) (x a b : Int64) : fX8_in N x a b = some (b2i (decide (a.toInt ≤ x.toInt ∧ x.toInt ≤ b.toInt))) := by
  unfold fX8_in lg_cmp
  simp only [gt_iff_lt, Int64.lt_iff_toInt_lt, ← Int64.toInt_inj]
  by_cases h1 : a.toInt ≤ x.toInt
  · by_cases h2 : x.toInt ≤ b.toInt
    · have e : decide (a.toInt ≤ x.toInt ∧ x.toInt ≤ b.toInt) = true := by simp [h1, h2]
      rw [e, b2i_t]
      have n2 : ¬ b.toInt < x.toInt := by omega
      rw [if_neg n2]
      have c1 : ¬ ((if a.toInt < x.toInt then (1 : Int32) else if x.toInt = a.toInt then 0 else -1) < 0) := by
        by_cases q : a.toInt < x.toInt
        · rw [if_pos q]; decide
        · rw [if_neg q, if_pos (by omega)]; decide
      rw [if_neg c1, if_neg]
      split <;> decide
    · have e : decide (a.toInt ≤ x.toInt ∧ x.toInt ≤ b.toInt) = false := by simp [h2]
      rw [e, b2i_f, if_pos (show b.toInt < x.toInt by omega)]
      generalize (if a.toInt < x.toInt then (1 : Int32) else if x.toInt = a.toInt then 0 else -1) = z
      by_cases hz : z < 0
      · rw [if_pos hz]
      · rw [if_neg hz, if_pos (by decide)]
  · have e : decide (a.toInt ≤ x.toInt ∧ x.toInt ≤ b.toInt) = false := by simp [h1]
    rw [e, b2i_f, if_neg (show ¬ a.toInt < x.toInt by omega), if_neg (show ¬ x.toInt = a.toInt by omega), if_pos (by decide)]
theorem m_in32 (N : Nat) (x : Int32) (a b : Int64) : fX8_in N x.toInt64 a b = some (b2i (decide (a.toInt ≤ x.toInt ∧ x.toInt ≤ b.toInt))) := by
  rw [m_in, Int32.toInt_toInt64]
theorem c_within (N : Nat) (v a b : Int32) : fX7_within N v a b = some (b2i (decide (a.toInt ≤ v.toInt ∧ v.toInt ≤ b.toInt))) := by
  unfold fX7_within
  simp only [Int32.lt_iff_toInt_lt]
  by_cases h1 : a.toInt ≤ v.toInt
  · by_cases h2 : v.toInt ≤ b.toInt
    · rw [if_neg (by omega), if_neg (by omega)]; simp [h1, h2, b2i]
    · rw [if_neg (by omega), if_pos (by omega)]; simp [h2, b2i]
  · rw [if_pos (by omega)]; simp [h1, b2i]
