theorem ite_b2i {α : Type} (b : Bool) (A B : α) : (if b2i b = 0 then A else B) = (if b = true then B else A) := by cases b <;> rfl
theorem rng {x : Int32} {n : Nat} (h : 0 ≤ x.toInt ∧ x.toInt < n) (hn : n < 2 ^ 31 := by omega) : ∃ k : Nat, k < n ∧ x = nI k := by
  refine ⟨x.toInt.toNat, by omega, ?_⟩
  rw [← Int32.toInt_inj, nI_toInt (by omega)]
  omega
theorem rngl {x : Int32} {a n : Nat} (h : (a : Int) ≤ x.toInt ∧ x.toInt ≤ n) (hn : n < 2 ^ 31 := by omega) : ∃ k : Nat, a ≤ k ∧ k ≤ n ∧ x = nI k := by
  refine ⟨x.toInt.toNat, by omega, by omega, ?_⟩
  rw [← Int32.toInt_inj, nI_toInt (by omega)]
  omega
theorem tI (k : Nat) (h : k < 2 ^ 31 := by omega) : (nI k).toInt = k := nI_toInt h
theorem has_gen (x : Int32) {n : Nat} (hn : n < 2 ^ 30) : (if x < 0 then some (0 : Int32) else if nI n ≤ x then some 0 else some 1) = some (b2i (decide (0 ≤ x.toInt ∧ x.toInt < n))) := by
  simp only [Int32.lt_iff_toInt_lt, Int32.le_iff_toInt_le, tI n (by omega), show (0 : Int32).toInt = 0 from rfl]
  by_cases h1 : 0 ≤ x.toInt
  · by_cases h2 : x.toInt < n
    · rw [if_neg (by omega), if_neg (by omega)]; simp [h1, h2, b2i]
    · rw [if_neg (by omega), if_pos (by omega)]; simp [h2, b2i]
  · rw [if_pos (by omega)]; simp [h1, b2i]
theorem c_hasCell (N : Nat) (x : Int32) {n : Nat} (hn : n < 2 ^ 30) : fX0_hasCell N (nI n) x = some (b2i (decide (0 ≤ x.toInt ∧ x.toInt < n))) := has_gen x hn
theorem c_hasPerson (N : Nat) (x : Int32) {n : Nat} (hn : n < 2 ^ 30) : fX0_hasPerson N (nI n) x = some (b2i (decide (0 ≤ x.toInt ∧ x.toInt < n))) := has_gen x hn
theorem c_hasSaying (N : Nat) (x : Int32) {n : Nat} (hn : n < 2 ^ 30) : fX0_hasSaying N (nI n) x = some (b2i (decide (0 ≤ x.toInt ∧ x.toInt < n))) := has_gen x hn
theorem zb_b {β : Type} (b : Bool) (x : Option β) : zb (b2i b) x = x := by
  unfold zb
  rw [if_pos]
  cases b
  · exact Or.inl rfl
  · exact Or.inr rfl
theorem is_gen (N : Nat) (x : Int32) {n : Nat} (hn : n < 2 ^ 30) : fX8_in N x.toInt64 0 ((nI n - 1).toInt64) = some (b2i (decide (0 ≤ x.toInt ∧ x.toInt < n))) := by
  rw [m_in32, Int32.toInt_toInt64, show (nI n - 1).toInt = (n : Int) - 1 from pk_sub_toInt (b := 1) hn (by decide), show (0 : Int64).toInt = 0 from rfl]
  congr 3
  apply propext
  constructor <;> intro h <;> omega
theorem m_isCell (N : Nat) (x : Int32) {n : Nat} {row : Nat → Int32} (hn : n < 2 ^ 30) (e : row 26 = nI n) : fX8_isCell N row x = some (b2i (decide (0 ≤ x.toInt ∧ x.toInt < n))) := by
  unfold fX8_isCell; rw [e, is_gen N x hn, bnd_s, zb_b]
theorem m_isPerson (N : Nat) (x : Int32) {n : Nat} {row : Nat → Int32} (hn : n < 2 ^ 30) (e : row 27 = nI n) : fX8_isPerson N row x = some (b2i (decide (0 ≤ x.toInt ∧ x.toInt < n))) := by
  unfold fX8_isPerson; rw [e, is_gen N x hn, bnd_s, zb_b]
theorem m_isSaying (N : Nat) (x : Int32) {n : Nat} {row : Nat → Int32} (hn : n < 2 ^ 30) (e : row 28 = nI n) : fX8_isSaying N row x = some (b2i (decide (0 ≤ x.toInt ∧ x.toInt < n))) := by
  unfold fX8_isSaying; rw [e, is_gen N x hn, bnd_s, zb_b]
theorem L64 : (0 : Int64).toInt = 0 ∧ (1 : Int64).toInt = 1 ∧ (60 : Int64).toInt = 60 ∧ (4 : Int64).toInt = 4 ∧ (9 : Int64).toInt = 9 ∧ (20 : Int64).toInt = 20 ∧ (99 : Int64).toInt = 99 ∧ (6 : Int64).toInt = 6 ∧ (200 : Int64).toInt = 200 ∧ (10 : Int64).toInt = 10 ∧ (40 : Int64).toInt = 40 ∧ (3 : Int64).toInt = 3 ∧ (5 : Int64).toInt = 5 ∧ (12 : Int64).toInt = 12 ∧ (32 : Int64).toInt = 32 ∧ (126 : Int64).toInt = 126 ∧ (57 : Int64).toInt = 57 := by decide
theorem L32 : (0 : Int32).toInt = 0 ∧ (1 : Int32).toInt = 1 ∧ (60 : Int32).toInt = 60 ∧ (4 : Int32).toInt = 4 ∧ (9 : Int32).toInt = 9 ∧ (20 : Int32).toInt = 20 ∧ (99 : Int32).toInt = 99 ∧ (6 : Int32).toInt = 6 ∧ (200 : Int32).toInt = 200 ∧ (10 : Int32).toInt = 10 ∧ (40 : Int32).toInt = 40 ∧ (3 : Int32).toInt = 3 ∧ (5 : Int32).toInt = 5 ∧ (32 : Int32).toInt = 32 ∧ (126 : Int32).toInt = 126 := by decide
theorem upd_s {f : Nat → Int32} {k : Nat} {x : Int32} : upd f k x k = x := pk_us
theorem upd_n {f : Nat → Int32} {k j : Nat} {x : Int32} (h : j ≠ k) : upd f k x j = f j := pk_un h
/-- rows that a change of the canal leaves -/
theorem rc_cell {C : BV_canal} {Y : BV_history} {row : Nat → Int32} {c : AC} {m : AM} {k : Nat} {h : Nat → AM} (hB : SNB c m k h) (hC : SNC c m k h C Y) (hM : SNM c m k h row) {v : Nat} (hc : c.1 < 12) (hv : v ≤ 60) :
    RC (nI c.1 + 1, C.2.1, C.2.2.1, C.2.2.2.1, C.2.2.2.2.1, C.2.2.2.2.2.1, C.2.2.2.2.2.2.1, C.2.2.2.2.2.2.2.1, C.2.2.2.2.2.2.2.2.1, upd C.2.2.2.2.2.2.2.2.2.1 c.1 (nI v), C.2.2.2.2.2.2.2.2.2.2.1, C.2.2.2.2.2.2.2.2.2.2.2) (Y.1, 0, Y.2.2) (upd (upd (upd row (3 + c.1) (nI v)) 26 (nI (c.1 + 1))) 41 0) := by
  obtain ⟨hB1, hB2, hB3, hB4⟩ := hB
  obtain ⟨hC1, hC2, hC3, x, hx, hC4, hC5⟩ := hC
  obtain ⟨hM1, hM2, hM3, hM4⟩ := hM
  refine ⟨(c.1 + 1, c.2), (m.1, m.2.1, m.2.2.1, (fun j => if j = c.1 then v else m.2.2.2.1 j), m.2.2.2.2), 0, h, ⟨⟨by show c.1 + 1 ≤ 12; omega, hB1.2⟩, ⟨by have := hB2.1; show m.1 ≤ c.1 + 1; omega, hB2.2.1, hB2.2.2.1, fun j hj => ?_, hB2.2.2.2.2⟩, by omega, fun i hi => absurd hi (Nat.not_lt_zero _)⟩, ⟨⟨n_s1 c.1, hC1.2⟩, ⟨hC2.1, hC2.2.1, hC2.2.2.1, fun j hj => ?_, hC2.2.2.2.2⟩, rfl, x, hx, hC4, fun i hi => absurd hi (Nat.not_lt_zero _)⟩, ⟨⟨?_, ?_, ?_, ?_, fun p hp => ?_⟩, ⟨?_, ?_, ?_, fun j hj => ?_, fun j hj => ?_⟩, ?_, fun i hi => absurd hi (Nat.not_lt_zero _)⟩⟩
  · show (if j = c.1 then v else m.2.2.2.1 j) ≤ 60
    split
    · exact hv
    · exact hB2.2.2.2.1 j (by have : j < c.1 + 1 := hj; omega)
  · show upd C.2.2.2.2.2.2.2.2.2.1 c.1 (nI v) j = nI (if j = c.1 then v else m.2.2.2.1 j)
    by_cases q : j = c.1
    · rw [if_pos q, q, upd_s]
    · rw [if_neg q, upd_n q]; exact hC2.2.2.2.1 j (by have : j < c.1 + 1 := hj; omega)
  · rw [upd_n (by omega), upd_n (by omega), upd_n (by omega)]; exact hM1.1
  · rw [upd_n (by omega), upd_s]
  · rw [upd_n (by omega), upd_n (by omega), upd_n (by omega)]; exact hM1.2.2.1
  · rw [upd_n (by omega), upd_n (by omega), upd_n (by omega)]; exact hM1.2.2.2.1
  · have hp6 : p < 6 := Nat.lt_of_lt_of_le hp hB1.2.1
    rw [upd_n (by omega), upd_n (by omega), upd_n (by omega), upd_n (by omega), upd_n (by omega), upd_n (by omega)]
    exact hM1.2.2.2.2 p hp
  · rw [upd_n (by omega), upd_n (by omega), upd_n (by omega)]; exact hM2.1
  · rw [upd_n (by omega), upd_n (by omega), upd_n (by omega)]; exact hM2.2.1
  · rw [upd_n (by omega), upd_n (by omega), upd_n (by omega)]; exact hM2.2.2.1
  · have hj' : j < c.1 + 1 := hj
    show _ = nI (if j = c.1 then v else m.2.2.2.1 j)
    rw [upd_n (by omega), upd_n (by omega)]
    by_cases q : j = c.1
    · rw [if_pos q, q, show 0 + 3 + c.1 = 3 + c.1 by omega, upd_s]
    · rw [if_neg q, upd_n (by omega)]; exact hM2.2.2.2.1 j (by omega)
  · have hj5 : j < 5 := Nat.lt_of_lt_of_le hj hB1.2.2.1
    rw [upd_n (by omega), upd_n (by omega), upd_n (by omega), upd_n (by omega), upd_n (by omega), upd_n (by omega)]
    exact hM2.2.2.2.2 j hj
  · rw [upd_s]; rfl
/-! SIM cell -/
theorem sim_cell (N : Nat) : Simcell N Rel := by
  intro S M y0 hR
  obtain ⟨⟨c, m, k, h, hB, hC, hM⟩, hI, hT, hD, hZ⟩ := id hR
  have h12 := hB.1.1
  have e1 : S.1.1 = nI c.1 := hC.1.1
  have e2 := hM.1.2.1
  unfold fX7_cell fX8_cell
  rw [c_within, m_in32, bnd_s, bnd_s, ite_b2i, ite_b2i]
  simp only [L64, L32, decide_eq_true_eq, e1, e2]
  by_cases hy : 0 ≤ y0.toInt ∧ y0.toInt ≤ 60
  · rw [if_pos hy, if_pos hy]
    obtain ⟨v, -, hv, rfl⟩ := rngl (a := 0) (n := 60) hy
    by_cases hc : c.1 < 12
    · have e3 : fX0_addCell N (nI c.1) S.1.2.2.2.2.2.2.2.2.2.1 (nI v) = some (nI c.1 + 1 - 1, nI c.1 + 1, upd S.1.2.2.2.2.2.2.2.2.2.1 c.1 (nI v)) := by
        unfold fX0_addCell; rw [ixb_nI (by omega)]
      have e4 : fX8_addCell N M.2.2.2.2.2.2.2.2.2.1 (nI v) = some (upd (upd (upd M.2.2.2.2.2.2.2.2.2.1 (3 + c.1) (nI v)) 26 (nI (c.1 + 1))) 41 0) := by
        unfold fX8_addCell; rw [e2, show (3 : Int32) + nI c.1 = nI (3 + c.1) from nI_add 3 _, ixb_nI (by omega), upd_n (by omega), e2, n_s1]
      rw [e3, e4, bnd_s]
      refine ⟨_, _, (if_pos (show nI c.1 < 12 from (nlt (b := 12) (by omega) (by omega)).mpr hc)).trans rfl, (if_neg (show ¬ nI c.1 = 12 from fun z => by have := (neq (b := 12) (by omega) (by omega)).mp z; omega)), ?_, rc_cell hB hC hM hc hv, hI.keep (fun j h1 h2 => ?_), hT, hD, hZ⟩
      · show nI c.1 + 1 - 1 = upd (upd (upd M.2.2.2.2.2.2.2.2.2.1 (3 + c.1) (nI v)) 26 (nI (c.1 + 1))) 41 0 26 - 1
        rw [upd_n (by omega), upd_s, n_s1]
      · show upd (upd (upd M.2.2.2.2.2.2.2.2.2.1 (3 + c.1) (nI v)) 26 (nI (c.1 + 1))) 41 0 j = _; rw [upd_n (by omega), upd_n (by omega), upd_n (by omega)]
    · refine ⟨_, _, (if_neg (show ¬ nI c.1 < 12 from fun z => by have := (nlt (b := 12) (by omega) (by omega)).mp z; omega)), (if_pos (show nI c.1 = 12 from (neq (b := 12) (by omega) (by omega)).mpr (by omega))), rfl, ?_⟩
      rw [← e1]; exact hR
  · rw [if_neg hy, if_neg hy]
    refine ⟨_, _, rfl, rfl, rfl, ?_⟩
    rw [← e1]; exact hR
