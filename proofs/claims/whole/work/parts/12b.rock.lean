/-! PURE: the boat's side rocks -/
theorem c_side_L (N : Nat) {np : Nat} {kd wt : Nat → Nat} {kind weight : Nat → Int32} (H : PR np kd wt kind weight) {side j : Nat} {al ev : Bool} (hs : side < 64) (hj : j ≤ 20) : ∀ (n p : Nat) (acc : Nat), p ≤ np → np - p < n → acc = srk kd wt side j al ev p →
    fX0_sideRocks_L21 N (nI side) (nI j) (b2i ev) (b2i al) (nI np) kind weight n (nI acc) (nI p) = some (nI (srk kd wt side j al ev np), nI np) := by
  have h6 := H.1
  intro n
  induction n with
  | zero => intro p acc hp hn; omega
  | succ n ih =>
    intro p acc hp hn ha
    rw [fX0_sideRocks_L21]
    by_cases hpe : p = np
    · subst hpe
      rw [if_pos ((nle (by omega) (by omega)).mpr (Nat.le_refl _)), ha]
    · rw [if_neg (fun z => by have := (nle (by omega) (by omega)).mp z; omega), s_shr side hs p (by omega)]
      have hsum := srk_le (kd := kd) (wt := wt) (side := side) (al := al) (ev := ev) hj (p + 1) (fun q hq => (H.2 q (by omega)).2.2.2.2)
      have hu : srk kd wt side j al ev (p + 1) = srk kd wt side j al ev p + (if side.testBit p then prk (kd p) (wt p) j al ev else 0) := rfl
      by_cases hb : side.testBit p = true
      · rw [hb, b2i_t, if_neg (by decide), c_person N H (by omega) hj, bnd_s, nI_add, n_s1]
        exact ih (p + 1) _ (by omega) (by omega) (by rw [hu, if_pos hb, ha])
      · have hb : side.testBit p = false := by simpa using hb
        rw [hb, b2i_f, if_pos rfl, n_s1]
        exact ih (p + 1) acc (by omega) (by omega) (by rw [hu, hb, ha]; rfl)
theorem c_side (N : Nat) (hN : 1000 ≤ N) {np : Nat} {kd wt : Nat → Nat} {kind weight : Nat → Int32} (H : PR np kd wt kind weight) {side j : Nat} {ev : Bool} (hs : side < 64) (hj : j ≤ 20) : fX0_sideRocks N (nI np) kind weight (nI side) (nI j) (b2i ev) = some (nI (sdk np kd wt side j ev)) := by
  have h6 := H.1
  unfold fX0_sideRocks sdk
  rw [s_pop N side hs, bnd_s]
  have hp := popc_le side
  by_cases h1 : popc side = 1
  · rw [if_pos (by rw [h1]; rfl), show decide (popc side = 1) = true by simp [h1]]
    have := c_side_L N H (al := true) (ev := ev) hs hj N 0 0 (by omega) (by omega) rfl
    rw [b2i_t] at this
    rw [show (0 : Int32) = nI 0 from rfl, this, bnd_s]
  · refine (if_neg (fun z => h1 ((neq (b := 1) (by omega) (by omega)).mp z))).trans ?_
    rw [show decide (popc side = 1) = false by simp [h1]]
    have := c_side_L N H (al := false) (ev := ev) hs hj N 0 0 (by omega) (by omega) rfl
    rw [b2i_f] at this
    rw [show (nI 0 : Int32) = 0 from rfl] at this
    rw [this, bnd_s]
theorem sdk_le {np : Nat} {kd wt : Nat → Nat} {kind weight : Nat → Int32} (H : PR np kd wt kind weight) {side j : Nat} {ev : Bool} (hj : j ≤ 20) : sdk np kd wt side j ev ≤ 168 := by
  have h6 := H.1
  have := srk_le (kd := kd) (wt := wt) (side := side) (al := decide (popc side = 1)) (ev := ev) hj np (fun q hq => (H.2 q (by omega)).2.2.2.2)
  unfold sdk
  omega
theorem c_boat (N : Nat) (hN : 1000 ≤ N) {np : Nat} {kd wt : Nat → Nat} {kind weight : Nat → Int32} (H : PR np kd wt kind weight) {j fo crew : Nat} {ev : Bool} (hf : fo < 64) (hc : crew < 64) (hj : j ≤ 20) : fX0_boatRocks N (nI np) kind weight (nI j) (nI fo) (nI crew) (b2i ev) = some (nI (brk np kd wt j fo crew ev)) := by
  unfold fX0_boatRocks brk
  by_cases h0 : j = 0
  · subst h0; exact (if_pos rfl).trans rfl
  · refine (if_neg (fun z => h0 ((neq (b := 0) (by omega) (by omega)).mp z))).trans ?_
    rw [if_neg h0, s_and crew hc fo hf, s_nand crew hc fo hf, c_side N hN H (and_lt64 hc) hj, bnd_s, c_side N hN H (and_lt64 hc) hj, bnd_s]
    have h1 := sdk_le H (side := crew &&& fo) (ev := ev) hj
    have h2 := sdk_le H (side := crew &&& (63 ^^^ fo)) (ev := ev) hj
    rw [n_imin (by omega) (by omega), show (2 : Int32) = nI 2 from rfl, n_mul]
theorem c_even (N : Nat) {nm : Nat} (h : nm < 2 ^ 31) : fX3_isEven N (nI nm) = some (b2i (decide (nm % 2 = 0))) := by
  unfold fX3_isEven
  rw [show (2 : Int32) = nI 2 from rfl, n_irem h (by omega) (by omega)]
  by_cases h0 : nm % 2 = 0
  · rw [if_pos (by rw [h0]; rfl)]; simp [h0, b2i]
  · refine (if_neg (fun z => h0 ((neq (b := 0) (by omega) (by omega)).mp z))).trans ?_; simp [h0, b2i]
theorem c_all (N : Nat) {np : Nat} (h : np ≤ 6) : fX0_everybody N (nI np) = some (nI (2 ^ np - 1)) := by
  unfold fX0_everybody
  rw [s_all np (by omega)]
theorem pow6 {np : Nat} (h : np ≤ 6) : 2 ^ np ≤ 64 := Nat.pow_le_pow_right (by decide) h
/-- what the sayings are -/
def SR (ns np : Nat) (ju fo : Nat → Nat) (juice fors : Nat → Int32) : Prop := ns ≤ 5 ∧ np ≤ 6 ∧ ∀ s, s < ns → juice s = nI (ju s) ∧ fors s = nI (fo s) ∧ ju s ≤ 20 ∧ fo s < 2 ^ np
/-- what a saying rocks -/
def rok (np : Nat) (kd wt ju fo : Nat → Nat) (nm s : Nat) : Nat := brk np kd wt (ju s) (fo s) (2 ^ np - 1) (decide (nm % 2 = 0))
theorem rok_le {np ns : Nat} {kd wt ju fo : Nat → Nat} {kind weight juice fors : Nat → Int32} (H : PR np kd wt kind weight) (S : SR ns np ju fo juice fors) {nm s : Nat} (hs : s < ns) : rok np kd wt ju fo nm s ≤ 336 := brk_le H.1 (fun q hq => (H.2 q (by omega)).2.2.2.2) (S.2.2 s hs).2.2.1
theorem c_rock (N : Nat) (hN : 1000 ≤ N) {np ns : Nat} {kd wt ju fo : Nat → Nat} {kind weight juice fors : Nat → Int32} (H : PR np kd wt kind weight) (S : SR ns np ju fo juice fors) {nm s : Nat} (hm : nm < 2 ^ 31) (hs : s < ns) : fX0_sayingRocks N (nI np) kind weight (nI nm) juice fors (nI s) = some (nI (rok np kd wt ju fo nm s)) := by
  obtain ⟨s1, s2, s3, s4⟩ := S.2.2 s hs
  have h5 := S.1
  have hp := pow6 H.1
  unfold fX0_sayingRocks rok
  rw [ixb_nI (by omega), ixb_nI (by omega), c_all N H.1, bnd_s, c_even N hm, bnd_s, s1, s2, c_boat N hN H (by omega) (by omega) s3, bnd_s]
theorem c_crew (N : Nat) (hN : 1000 ≤ N) {np ns : Nat} {kd wt ju fo : Nat → Nat} {kind weight juice fors : Nat → Int32} (H : PR np kd wt kind weight) (S : SR ns np ju fo juice fors) {nm s crew : Nat} (hm : nm < 2 ^ 31) (hs : s < ns) (hc : crew < 64) : fX0_crewRocks N (nI np) kind weight (nI nm) juice fors (nI s) (nI crew) = some (nI (brk np kd wt (ju s) (fo s) crew (decide (nm % 2 = 0)))) := by
  obtain ⟨s1, s2, s3, s4⟩ := S.2.2 s hs
  have h5 := S.1
  have hp := pow6 H.1
  unfold fX0_crewRocks
  rw [ixb_nI (by omega), ixb_nI (by omega), c_even N hm, bnd_s, s1, s2, c_boat N hN H (by omega) hc s3, bnd_s]
theorem c_sway (N : Nat) (hN : 1000 ≤ N) {np ns : Nat} {kd wt ju fo : Nat → Nat} {kind weight juice fors : Nat → Int32} (H : PR np kd wt kind weight) (S : SR ns np ju fo juice fors) {nm s sw : Nat} (hm : nm < 2 ^ 31) (hs : s < ns) (hc : sw < 64) : fX0_swayedRocks N (nI np) kind weight (nI nm) juice fors (nI s) (nI sw) = some (nI (brk np kd wt (ju s) (fo s ^^^ sw) (2 ^ np - 1) (decide (nm % 2 = 0)))) := by
  obtain ⟨s1, s2, s3, s4⟩ := S.2.2 s hs
  have h5 := S.1
  have hp := pow6 H.1
  unfold fX0_swayedRocks
  rw [ixb_nI (by omega), ixb_nI (by omega), c_all N H.1, bnd_s, c_even N hm, bnd_s, s1, s2, s_xor _ (by omega) _ hc, c_boat N hN H (xor_lt64 (by omega) hc) (by omega) s3, bnd_s]
/-! PURE: the reference's side rocks. The people stand in the row from 29 and 35 on; a minute at base + 1 -/
def QR (np : Nat) (kd wt : Nat → Nat) (row : Nat → Int32) : Prop := np ≤ 6 ∧ row 27 = nI np ∧ ∀ p, p < np → row (29 + p) = nI (kd p) ∧ row (35 + p) = nI (wt p) ∧ kd p ≤ 4 ∧ 1 ≤ wt p ∧ wt p ≤ 9
theorem m_bits_L (N : Nat) {side : Nat} (hs : side < 64) : ∀ (n p acc : Nat), p ≤ 6 → 6 - p < n → acc ≤ p → fX8_bits_L4 N (nI side) n (nI acc) (nI p) = some (nI (acc + ((if p ≤ 0 ∧ side.testBit 0 then 1 else 0) + (if p ≤ 1 ∧ side.testBit 1 then 1 else 0) + (if p ≤ 2 ∧ side.testBit 2 then 1 else 0) + (if p ≤ 3 ∧ side.testBit 3 then 1 else 0) + (if p ≤ 4 ∧ side.testBit 4 then 1 else 0) + (if p ≤ 5 ∧ side.testBit 5 then 1 else 0))), nI 6) := by
  intro n
  induction n with
  | zero => intro p acc hp hn; omega
  | succ n ih =>
    intro p acc hp hn ha
    rw [fX8_bits_L4]
    by_cases hpe : p = 6
    · subst hpe
      rw [if_pos (show (6 : Int32) ≤ nI 6 by decide)]
      simp
    · rw [if_neg (fun z => by have := (nle (a := 6) (by omega) (by omega)).mp z; omega), s_shr side hs p (by omega), n_s1]
      have e : nI acc + b2i (side.testBit p) = nI (acc + (if side.testBit p then 1 else 0)) := by
        cases side.testBit p
        · show nI acc + nI 0 = _; rw [nI_add]; rfl
        · show nI acc + nI 1 = _; rw [nI_add]; rfl
      rw [e, ih (p + 1) _ (by omega) (by omega) (by split <;> omega)]
      have hc : p = 0 ∨ p = 1 ∨ p = 2 ∨ p = 3 ∨ p = 4 ∨ p = 5 := by omega
      rcases hc with rfl | rfl | rfl | rfl | rfl | rfl <;> simp <;> congr 1 <;> omega
theorem m_bits (N : Nat) (hN : 1000 ≤ N) {side : Nat} (hs : side < 64) : fX8_bits N (nI side) = some (nI (popc side)) := by
  unfold fX8_bits
  rw [show (0 : Int32) = nI 0 from rfl, m_bits_L N hs N 0 0 (by omega) (by omega) (by omega), bnd_s]
  simp [popc]
theorem m_has (N : Nat) {side p : Nat} (hs : side < 64) (hp : p < 6) : fX8_has N (nI side) (nI p) = some (b2i (side.testBit p)) := by
  unfold fX8_has
  rw [s_shr side hs p hp]
  cases side.testBit p <;> simp [b2i]
theorem m_person (N : Nat) (hN : 1000 ≤ N) {np : Nat} {kd wt : Nat → Nat} {row : Nat → Int32} (H : QR np kd wt row) {base nm : Nat} (hb : base ≤ 500) (hm : row (base + 1) = nI nm) (hm2 : nm < 2 ^ 31) {p j side : Nat} (hp : p < np) (hj : j ≤ 20) (hs : side < 64) : fX8_rocksBy N row (nI base) (nI p) (nI j) (nI side) = some (nI (prk (kd p) (wt p) j (decide (popc side = 1)) (decide (nm % 2 = 0)))) := by
  obtain ⟨hk, hw, hk4, hw1, hw9⟩ := H.2.2 p hp
  have h6 := H.1
  have hpc := popc_le side
  unfold fX8_rocksBy
  have e35 : (35 : Int32) + nI p = nI (35 + p) := nI_add 35 p
  have e29 : (29 : Int32) + nI p = nI (29 + p) := nI_add 29 p
  simp only [e35, e29, n_s1, ixb_nI (show 35 + p < 525 by omega), ixb_nI (show 29 + p < 525 by omega), ixb_nI (show base + 1 < 525 by omega), hk, hw, hm, m_bits N hN hs, bnd_s]
  have e4 : nI j / 4 = nI (j / 4) := n_div (d := 4) (by omega) (by omega) (by omega)
  have e2 : irem (nI nm) 2 = nI (nm % 2) := n_irem (d := 2) hm2 (by omega) (by omega)
  have hc : kd p = 0 ∨ kd p = 1 ∨ kd p = 2 ∨ kd p = 3 ∨ kd p = 4 := by omega
  have hev : (irem (nI nm) 2 = 0) ↔ nm % 2 = 0 := by rw [e2]; exact neq (b := 0) (by omega) (by omega)
  have hal : (nI (popc side) = 1) ↔ popc side = 1 := neq (b := 1) (by omega) (by omega)
  by_cases hj6 : 6 ≤ j
  · rw [if_pos (show (6 : Int32) ≤ nI j from (nle (a := 6) (by omega) (by omega)).mpr hj6), e4]
    have hj' : ¬ j < 6 := by omega
    rcases hc with h | h | h | h | h <;> rw [h] <;> by_cases hx : popc side = 1 <;> by_cases hy : nm % 2 = 0 <;> (try simp only [hev, hal, hx, hy, if_true, if_false]) <;> simp [prk, hj', hx, hy, nI_add, nI] <;> first | rfl | skip
  · rw [if_neg (show ¬ (6 : Int32) ≤ nI j from fun z => hj6 ((nle (a := 6) (by omega) (by omega)).mp z)), e4]
    have hj' : j < 6 := by omega
    rcases hc with h | h | h | h | h <;> rw [h] <;> by_cases hx : popc side = 1 <;> by_cases hy : nm % 2 = 0 <;> (try simp only [hev, hal, hx, hy, if_true, if_false]) <;> simp [prk, hj', hx, hy, nI_add, nI] <;> first | rfl | skip

theorem m_side_L (N : Nat) (hN : 1000 ≤ N) {np : Nat} {kd wt : Nat → Nat} {row : Nat → Int32} (H : QR np kd wt row) {base nm : Nat} (hb : base ≤ 500) (hm : row (base + 1) = nI nm) (hm2 : nm < 2 ^ 31) {side j : Nat} (hs : side < 2 ^ np) (hj : j ≤ 20) : ∀ (n p : Nat) (acc : Nat), p ≤ 6 → 6 - p < n → acc = srk kd wt side j (decide (popc side = 1)) (decide (nm % 2 = 0)) (min p np) →
    fX8_sideBy_L6 N (nI base) (nI j) (nI side) row n (nI acc) (nI p) = some (nI (sdk np kd wt side j (decide (nm % 2 = 0))), nI 6) := by
  have h6 := H.1
  have hs64 : side < 64 := Nat.lt_of_lt_of_le hs (pow6 h6)
  intro n
  induction n with
  | zero => intro p acc hp hn; omega
  | succ n ih =>
    intro p acc hp hn ha
    rw [fX8_sideBy_L6]
    by_cases hpe : p = 6
    · subst hpe
      refine (if_pos (show (6 : Int32) ≤ nI 6 by decide)).trans ?_
      rw [ha, Nat.min_eq_right h6]; rfl
    · refine (if_neg (fun z => by have := (nle (a := 6) (by omega) (by omega)).mp z; omega)).trans ?_
      rw [m_has N hs64 (show p < 6 by omega), bnd_s]
      have hsum := srk_le (kd := kd) (wt := wt) (side := side) (al := decide (popc side = 1)) (ev := decide (nm % 2 = 0)) hj (min p np) (fun q hq => (H.2.2 q (by omega)).2.2.2.2)
      by_cases hpn : p < np
      · have hu : srk kd wt side j (decide (popc side = 1)) (decide (nm % 2 = 0)) (p + 1) = srk kd wt side j (decide (popc side = 1)) (decide (nm % 2 = 0)) p + (if side.testBit p then prk (kd p) (wt p) j (decide (popc side = 1)) (decide (nm % 2 = 0)) else 0) := rfl
        rw [Nat.min_eq_left (by omega)] at ha
        by_cases hbt : side.testBit p = true
        · rw [hbt, b2i_t, if_neg (by decide), m_person N hN H hb hm hm2 hpn hj hs64, bnd_s, nI_add, n_s1]
          exact ih (p + 1) _ (by omega) (by omega) (by rw [Nat.min_eq_left (by omega), hu, if_pos hbt, ha])
        · have hbt : side.testBit p = false := by simpa using hbt
          rw [hbt, b2i_f, if_pos rfl, n_s1, show nI acc + 0 = nI acc from nI_add acc 0]
          exact ih (p + 1) acc (by omega) (by omega) (by rw [Nat.min_eq_left (by omega), hu, hbt, ha]; rfl)
      · have hbt : side.testBit p = false := Nat.testBit_lt_two_pow (Nat.lt_of_lt_of_le hs (Nat.pow_le_pow_right (by decide) (by omega)))
        rw [Nat.min_eq_right (by omega)] at ha
        rw [hbt, b2i_f, if_pos rfl, n_s1, show nI acc + 0 = nI acc from nI_add acc 0]
        exact ih (p + 1) acc (by omega) (by omega) (by rw [Nat.min_eq_right (by omega), ha])
theorem m_side (N : Nat) (hN : 1000 ≤ N) {np : Nat} {kd wt : Nat → Nat} {row : Nat → Int32} (H : QR np kd wt row) {base nm : Nat} (hb : base ≤ 500) (hm : row (base + 1) = nI nm) (hm2 : nm < 2 ^ 31) {side j : Nat} (hs : side < 2 ^ np) (hj : j ≤ 20) : fX8_sideBy N row (nI base) (nI j) (nI side) = some (nI (sdk np kd wt side j (decide (nm % 2 = 0)))) := by
  unfold fX8_sideBy
  rw [show (0 : Int32) = nI 0 from rfl, m_side_L N hN H hb hm hm2 hs hj N 0 0 (by omega) (by omega) (by simp [srk]), bnd_s]
theorem m_sdk_le {np : Nat} {kd wt : Nat → Nat} {row : Nat → Int32} (H : QR np kd wt row) {side j : Nat} {ev : Bool} (hj : j ≤ 20) : sdk np kd wt side j ev ≤ 168 := by
  have h6 := H.1
  have := srk_le (kd := kd) (wt := wt) (side := side) (al := decide (popc side = 1)) (ev := ev) hj np (fun q hq => (H.2.2 q (by omega)).2.2.2.2)
  unfold sdk
  omega
theorem m_boat (N : Nat) (hN : 1000 ≤ N) {np : Nat} {kd wt : Nat → Nat} {row : Nat → Int32} (H : QR np kd wt row) {base nm : Nat} (hb : base ≤ 500) (hm : row (base + 1) = nI nm) (hm2 : nm < 2 ^ 31) {j fo crew : Nat} (hf : fo < 64) (hc : crew < 2 ^ np) (hj : j ≤ 20) : fX8_rockBy N row (nI base) (nI j) (nI fo) (nI crew) = some (nI (brk np kd wt j fo crew (decide (nm % 2 = 0)))) := by
  have hc64 : crew < 64 := Nat.lt_of_lt_of_le hc (pow6 H.1)
  unfold fX8_rockBy brk
  rw [Int32.and_comm, s_and crew hc64 fo hf, s_nand crew hc64 fo hf, m_side N hN H hb hm hm2 (Nat.lt_of_le_of_lt Nat.and_le_left hc) hj, bnd_s, m_side N hN H hb hm hm2 (Nat.lt_of_le_of_lt Nat.and_le_left hc) hj, bnd_s]
  have h1 := m_sdk_le H (side := crew &&& fo) (ev := decide (nm % 2 = 0)) hj
  have h2 := m_sdk_le H (side := crew &&& (63 ^^^ fo)) (ev := decide (nm % 2 = 0)) hj
  by_cases h0 : j = 0
  · subst h0; exact (if_pos rfl).trans rfl
  · refine (if_neg (fun z => h0 ((neq (b := 0) (by omega) (by omega)).mp z))).trans ?_
    rw [if_neg h0]
    by_cases h : sdk np kd wt (crew &&& (63 ^^^ fo)) j (decide (nm % 2 = 0)) ≤ sdk np kd wt (crew &&& fo) j (decide (nm % 2 = 0))
    · rw [if_pos ((nle (by omega) (by omega)).mpr h), Nat.min_eq_right h]
      exact congrArg some (n_mul 2 _)
    · rw [if_neg (fun z => h ((nle (by omega) (by omega)).mp z)), Nat.min_eq_left (by omega)]
      exact congrArg some (n_mul 2 _)
theorem m_all (N : Nat) {np : Nat} {row : Nat → Int32} (h : np ≤ 6) (e : row 27 = nI np) : fX8_everybody N row = some (nI (2 ^ np - 1)) := by
  unfold fX8_everybody
  rw [e, s_all np (by omega)]
/-- the sayings at a base -/
def TR (base ns np : Nat) (ju fo : Nat → Nat) (row : Nat → Int32) : Prop := base ≤ 484 ∧ ns ≤ 5 ∧ row 28 = nI ns ∧ ∀ s, s < ns → row (base + 15 + s) = nI (ju s) ∧ row (base + 20 + s) = nI (fo s) ∧ ju s ≤ 20 ∧ fo s < 2 ^ np
theorem m_rock (N : Nat) (hN : 1000 ≤ N) {np ns base : Nat} {kd wt ju fo : Nat → Nat} {row : Nat → Int32} (H : QR np kd wt row) (S : TR base ns np ju fo row) {nm s : Nat} (hm : row (base + 1) = nI nm) (hm2 : nm < 2 ^ 31) (hs : s < ns) : fX8_rockOf N row (nI base) (nI s) = some (nI (rok np kd wt ju fo nm s)) := by
  obtain ⟨s1, s2, s3, s4⟩ := S.2.2.2 s hs
  have h5 := S.2.1
  have hb := S.1
  have hp := pow6 H.1
  have hpos : 0 < 2 ^ np := Nat.pos_of_ne_zero (by simp)
  unfold fX8_rockOf rok
  have e1 : nI base + 15 + nI s = nI (base + 15 + s) := by rw [show (15 : Int32) = nI 15 from rfl, nI_add, nI_add]
  have e2 : nI base + 20 + nI s = nI (base + 20 + s) := by rw [show (20 : Int32) = nI 20 from rfl, nI_add, nI_add]
  rw [e1, e2, ixb_nI (by omega), ixb_nI (by omega), m_all N H.1 H.2.1, bnd_s, s1, s2, m_boat N hN H (by omega) hm hm2 (by omega) (by omega) s3, bnd_s]
theorem m_with (N : Nat) (hN : 1000 ≤ N) {np ns : Nat} {kd wt ju fo : Nat → Nat} {row : Nat → Int32} (H : QR np kd wt row) (S : TR 0 ns np ju fo row) {nm s f crew : Nat} (hm : row 1 = nI nm) (hm2 : nm < 2 ^ 31) (hs : s < ns) (hf : f < 64) (hc : crew < 2 ^ np) : fX8_rockWith N row (nI s) (nI f) (nI crew) = some (nI (brk np kd wt (ju s) f crew (decide (nm % 2 = 0)))) := by
  obtain ⟨s1, s2, s3, s4⟩ := S.2.2.2 s hs
  have h5 := S.2.1
  unfold fX8_rockWith
  have e1 : (15 : Int32) + nI s = nI (15 + s) := nI_add 15 s
  rw [e1, ixb_nI (by omega), show row (15 + s) = nI (ju s) by rw [← s1, Nat.zero_add]]
  have := m_boat N hN H (base := 0) (by omega) hm hm2 hf hc s3
  rw [show (nI 0 : Int32) = 0 from rfl] at this
  rw [this, bnd_s]
