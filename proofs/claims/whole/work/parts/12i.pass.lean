/-! PURE: a minute -/
def sI (ns s : Nat) : Int32 := if s < ns then nI s else -4
theorem sI_ne {ns s j : Nat} (hn : ns ≤ 5) (hj : j < 2 ^ 30) (h : j ≠ s) : ¬ nI j = sI ns s := by
  unfold sI
  intro z
  have := congrArg Int32.toInt z
  rw [tI j] at this
  split at this
  · rw [tI s (by omega)] at this; omega
  · rw [show ((-4 : Int32)).toInt = -4 by decide] at this; omega
def aStep (nc fr rk nb : Nat) (ic : Nat → Nat) : Nat × (Nat → Nat) := if nc ≤ nb then (nb, ic) else if ic nb ≤ rk then (nb + 1, fun j => if j = nb then 0 else ic j) else (nb, fun j => if j = nb then min 60 (ic nb - rk + fr) else ic j)
def aJu1 (s j v : Nat) : Nat := if j = s then v - 2 else if v = 0 then 0 else min 20 (v + 1)
def aJu (ns s : Nat) (ju : Nat → Nat) : Nat → Nat := fun j => if j < ns then aJu1 s j (ju j) else ju j
def aRk (np ns : Nat) (kd wt : Nat → Nat) (m : AM) (s : Nat) : Nat := if s < ns then rok np kd wt m.2.2.2.2.1 m.2.2.2.2.2 m.2.1 s else 0
def aPass (nc np ns fr : Nat) (kd wt : Nat → Nat) (m : AM) (s : Nat) : AM := ((aStep nc fr (aRk np ns kd wt m s) m.1 m.2.2.2.1).1, m.2.1 + 1, m.2.2.1, (aStep nc fr (aRk np ns kd wt m s) m.1 m.2.2.2.1).2, aJu ns s m.2.2.2.2.1, m.2.2.2.2.2)
theorem aPass_bd {nc np ns fr T : Nat} {kd wt : Nat → Nat} {m : AM} {s : Nat} (h : MBD nc np ns T m) : MBD nc np ns (T + 1) (aPass nc np ns fr kd wt m s) := by
  obtain ⟨a1, a2, a3, a4, a5⟩ := h
  refine ⟨?_, by show m.2.1 + 1 ≤ T + 1; omega, a3, fun j hj => ?_, fun j hj => ⟨?_, (a5 j hj).2⟩⟩
  · show (aStep _ _ _ _ _).1 ≤ nc
    unfold aStep
    split
    · exact a1
    · split <;> simp <;> omega
  · show (aStep _ _ _ _ _).2 j ≤ 60
    unfold aStep
    split
    · exact a4 j hj
    · split
      · show (if j = m.1 then 0 else m.2.2.2.1 j) ≤ 60
        split
        · omega
        · exact a4 j hj
      · show (if j = m.1 then min 60 _ else m.2.2.2.1 j) ≤ 60
        split
        · omega
        · exact a4 j hj
  · show aJu ns s m.2.2.2.2.1 j ≤ 20
    unfold aJu aJu1
    have := (a5 j hj).1
    (repeat' split) <;> omega
theorem c_ju_L (N : Nat) {ns s : Nat} {ju : Nat → Nat} (h5 : ns ≤ 5) (hb : ∀ j, j < ns → ju j ≤ 20) : ∀ (n j : Nat) (juice : Nat → Int32), j ≤ ns → ns - j < n → (∀ i, i < ns → juice i = nI (if i < j then aJu1 s i (ju i) else ju i)) → ∃ o, fX0_pass_L33 N (sI ns s) (nI ns) n (nI j) juice = some o ∧ ∀ i, i < ns → o.2 i = nI (aJu ns s ju i) := by
  intro n
  induction n with
  | zero => intro j juice hj hn; omega
  | succ n ih =>
    intro j juice hj hn hju
    rw [fX0_pass_L33]
    by_cases he : j = ns
    · subst he
      refine ⟨_, if_pos ((nle (by omega) (by omega)).mpr (Nat.le_refl _)), fun i hi => ?_⟩
      show juice i = _
      rw [hju i hi, if_pos hi]; unfold aJu; rw [if_pos hi]
    · rw [if_neg (fun z => by have := (nle (by omega) (by omega)).mp z; omega)]
      have hjn : j < ns := by omega
      have ej : juice j = nI (ju j) := by rw [hju j hjn, if_neg (Nat.lt_irrefl j)]
      have hbj := hb j hjn
      have nxt : ∀ v, v = aJu1 s j (ju j) → ∀ i, i < ns → upd juice j (nI v) i = nI (if i < j + 1 then aJu1 s i (ju i) else ju i) := by
        intro v hv i hi
        by_cases q : i = j
        · subst q; rw [upd_s, if_pos (by omega), hv]
        · rw [upd_n q, hju i hi]
          by_cases q2 : i < j
          · rw [if_pos q2, if_pos (by omega)]
          · rw [if_neg q2, if_neg (by omega)]
      by_cases hs : j = s
      · have es : nI j = sI ns s := by unfold sI; rw [if_pos (by omega), hs]
        rw [if_pos es, ixb_nI (by omega), ixb_nI (by omega), ej, n_s1]
        have em : imax 0 (nI (ju j) - 2) = nI (ju j - 2) := by
          have : ∀ v, v ≤ 20 → imax 0 (nI v - 2) = nI (v - 2) := by decide +kernel
          exact this _ hbj
        rw [em]
        exact ih (j + 1) _ (by omega) (by omega) (nxt _ (by unfold aJu1; rw [if_pos hs]))
      · rw [if_neg (sI_ne h5 (by omega) hs), ixb_nI (by omega), ej, n_s1]
        by_cases h0 : ju j = 0
        · rw [if_pos (show nI (ju j) ≤ 0 by rw [h0]; decide)]
          refine ih (j + 1) juice (by omega) (by omega) (fun i hi => ?_)
          rw [hju i hi]
          by_cases q : i = j
          · subst q; rw [if_neg (Nat.lt_irrefl _), if_pos (by omega)]; unfold aJu1; rw [if_neg hs, if_pos h0, h0]
          · by_cases q2 : i < j
            · rw [if_pos q2, if_pos (by omega)]
            · rw [if_neg q2, if_neg (by omega)]
        · rw [if_neg (show ¬ nI (ju j) ≤ 0 from fun z => h0 (by have := (nle (b := 0) (by omega) (by omega)).mp z; omega)), ixb_nI (by omega), ixb_nI (by omega), ej, n_s1, show (20 : Int32) = nI 20 from rfl, n_imin (by omega) (by omega)]
          exact ih (j + 1) _ (by omega) (by omega) (nxt _ (by unfold aJu1; rw [if_neg hs, if_neg h0]))
theorem c_ju (N : Nat) (hN : 1000 ≤ N) {ns s : Nat} {ju : Nat → Nat} {juice : Nat → Int32} (h5 : ns ≤ 5) (hb : ∀ j, j < ns → ju j ≤ 20) (e : ∀ i, i < ns → juice i = nI (ju i)) : ∃ o, fX0_pass_L33 N (sI ns s) (nI ns) N 0 juice = some o ∧ ∀ i, i < ns → o.2 i = nI (aJu ns s ju i) :=
  c_ju_L N h5 hb N 0 juice (by omega) (by omega) (fun i hi => by rw [e i hi, if_neg (Nat.not_lt_zero _)])
theorem c_thr (N : Nat) {nc nb : Nat} (h : nc ≤ 12) (hb : nb ≤ nc) : fX0_isThrough N (nI nc) (nI nb) = some (b2i (decide (nc ≤ nb))) := by
  unfold fX0_isThrough
  by_cases q : nc ≤ nb
  · rw [if_neg (fun z => by have := (nlt (by omega) (by omega)).mp z; omega)]; simp [q, b2i]
  · rw [if_pos ((nlt (by omega) (by omega)).mpr (by omega))]; simp [q, b2i]
theorem c_break (N : Nat) {nc fr rk nb : Nat} {ic : Nat → Nat} {ice : Nat → Int32} (h12 : nc ≤ 12) (hf : fr ≤ 9) (hr : rk ≤ 400) (hlt : nb < nc) (hi : ic nb ≤ 60) (e : ∀ j, j < nc → ice j = nI (ic j)) : ∃ o, fX0_breakIce N (nI fr) (nI nb) ice (nI rk) = some o ∧ o.1 = nI (aStep nc fr rk nb ic).1 ∧ ∀ j, j < nc → o.2 j = nI ((aStep nc fr rk nb ic).2 j) := by
  unfold fX0_breakIce aStep
  rw [ixb_nI (by omega), e nb hlt, if_neg (show ¬ nc ≤ nb by omega)]
  by_cases q : ic nb ≤ rk
  · refine ⟨_, (if_neg (show ¬ 0 < nI (ic nb) - nI rk from fun z => by rw [Int32.lt_iff_toInt_lt, pk_sub_toInt (by omega) (by omega), show (0 : Int32).toInt = 0 from rfl] at z; omega)).trans (ixb_nI (by omega)), ?_, fun j hj => ?_⟩
    · rw [if_pos q]; exact n_s1 nb
    · rw [if_pos q]
      show upd ice nb 0 j = nI (if j = nb then 0 else ic j)
      by_cases qj : j = nb
      · subst qj; rw [upd_s, if_pos rfl]; rfl
      · rw [upd_n qj, if_neg qj, e j hj]
  · refine ⟨_, (if_pos (show 0 < nI (ic nb) - nI rk by rw [Int32.lt_iff_toInt_lt, pk_sub_toInt (by omega) (by omega), show (0 : Int32).toInt = 0 from rfl]; omega)).trans (ixb_nI (by omega)), ?_, fun j hj => ?_⟩
    · rw [if_neg q]
    · rw [if_neg q]
      show upd ice nb (imin 60 (nI (ic nb) - nI rk + nI fr)) j = nI (if j = nb then min 60 (ic nb - rk + fr) else ic j)
      by_cases qj : j = nb
      · subst qj; rw [upd_s, if_pos rfl, n_sub (by omega), nI_add, show (60 : Int32) = nI 60 from rfl, n_imin (by omega) (by omega)]
      · rw [upd_n qj, if_neg qj, e j hj]
theorem c_pass (N : Nat) (hN : 1000 ≤ N) {nc np ns fr T : Nat} {kd wt : Nat → Nat} {m : AM} {cells people sayings frost : Int32} {kind weight : Nat → Int32} {boat minute draw : Int32} {ice juice fors : Nat → Int32} (hB : CAB nc np ns fr kd wt) (hM : MBD nc np ns T m) (hT : T ≤ 20000) (hC : CCA nc np ns fr kd wt cells people sayings frost kind weight) (hO : CMO nc ns m boat minute draw ice juice fors) (s : Nat) (hs : s < 2 ^ 31) :
    ∃ o, fX0_pass N cells people sayings frost kind weight boat minute ice juice fors (sI ns s) = some o ∧ CMO nc ns (aPass nc np ns fr kd wt m s) o.1 o.2.1 draw o.2.2.1 o.2.2.2 fors := by
  have P := PR.of hB hC
  have SS := SR.of hB hM hO
  obtain ⟨c1, c2, c3, c4, -⟩ := hC
  obtain ⟨o1, o2, o3, o4, o5⟩ := hO
  obtain ⟨m1, m2, m3, m4, m5⟩ := hM
  have h12 := hB.1
  have h5 := hB.2.2.1
  subst c1; subst c2; subst c3; subst c4; subst o1; subst o2
  obtain ⟨oj, hoj, hj⟩ := c_ju N hN (s := s) h5 (fun j hj => (m5 j hj).1) (fun j hj => (o5 j hj).1)
  unfold fX0_pass
  rw [c_thr N h12 m1, bnd_s, ite_b2i]
  simp only [decide_eq_true_eq, hoj, bnd_s]
  by_cases ht : nc ≤ m.1
  · refine ⟨_, if_pos ht, ?_, n_s1 _, o3, fun j hj2 => ?_, fun j hj2 => ⟨hj j hj2, (o5 j hj2).2⟩⟩
    · show nI m.1 = nI (aStep _ _ _ _ _).1
      unfold aStep; rw [if_pos ht]
    · show ice j = nI ((aStep _ _ _ _ _).2 j)
      unfold aStep; rw [if_pos ht]; exact o4 j hj2
  · rw [if_neg ht, c_hasSaying N _ (by omega), bnd_s, ite_b2i]
    simp only [decide_eq_true_eq]
    by_cases hsn : s < ns
    · have es : sI ns s = nI s := by unfold sI; rw [if_pos hsn]
      have er : aRk np ns kd wt m s = rok np kd wt m.2.2.2.2.1 m.2.2.2.2.2 m.2.1 s := by unfold aRk; rw [if_pos hsn]
      have hrk := rok_le P SS (nm := m.2.1) hsn
      obtain ⟨ob, hob, b1, b2⟩ := c_break N (rk := aRk np ns kd wt m s) h12 hB.2.2.2.1 (by rw [er]; omega) (show m.1 < nc by omega) (m4 m.1 (by omega)) o4
      rw [er] at hob
      have hin : 0 ≤ (sI ns s).toInt ∧ (sI ns s).toInt < (ns : Int) := by rw [es, tI s]; omega
      rw [if_pos hin, es, c_rock N hN P SS (by omega) hsn, bnd_s, hob, bnd_s]
      exact ⟨_, rfl, b1, n_s1 _, o3, b2, fun j hj2 => ⟨hj j hj2, (o5 j hj2).2⟩⟩
    · have es : sI ns s = -4 := by unfold sI; rw [if_neg hsn]
      have er : aRk np ns kd wt m s = 0 := by unfold aRk; rw [if_neg hsn]
      obtain ⟨ob, hob, b1, b2⟩ := c_break N (rk := aRk np ns kd wt m s) h12 hB.2.2.2.1 (by rw [er]; omega) (show m.1 < nc by omega) (m4 m.1 (by omega)) o4
      rw [er] at hob
      have hin : ¬ (0 ≤ (sI ns s).toInt ∧ (sI ns s).toInt < (ns : Int)) := by rw [es, show ((-4 : Int32)).toInt = -4 by decide]; omega
      rw [if_neg hin, show (0 : Int32) = nI 0 from rfl, hob, bnd_s]
      exact ⟨_, rfl, b1, n_s1 _, o3, b2, fun j hj2 => ⟨hj j hj2, (o5 j hj2).2⟩⟩

/-! the reference's minute -/
theorem m_ju_L (N : Nat) {ns s base : Nat} {ju : Nat → Nat} {row : Nat → Int32} {x3 : Int32} (h5 : ns ≤ 5) (hbs : base ≤ 484) (hb0 : base = 0 ∨ 29 ≤ base) (hb : ∀ j, j < ns → ju j ≤ 20) (e28 : row 28 = nI ns) : ∀ (n j : Nat) (rw_ : Nat → Int32), j ≤ ns → ns - j < n → (∀ i, i < ns → rw_ (base + 15 + i) = nI (if i < j then aJu1 s i (ju i) else ju i)) → (∀ q, (q < base + 15 ∨ base + 15 + ns ≤ q) → rw_ q = row q) → ∃ o, fX8_pass_L113 N (nI base) (sI ns s) x3 n (nI j) rw_ = some o ∧ (∀ i, i < ns → o.2 (base + 15 + i) = nI (aJu ns s ju i)) ∧ ∀ q, (q < base + 15 ∨ base + 15 + ns ≤ q) → o.2 q = row q := by
  intro n
  induction n with
  | zero => intro j rw_ hj hn; omega
  | succ n ih =>
    intro j rw_ hj hn hju hq
    rw [fX8_pass_L113, hq 28 (by omega), e28]
    by_cases he : j = ns
    · subst he
      refine ⟨_, if_pos ((nle (by omega) (by omega)).mpr (Nat.le_refl _)), fun i hi => ?_, hq⟩
      show rw_ (base + 15 + i) = _
      rw [hju i hi, if_pos hi]; unfold aJu; rw [if_pos hi]
    · rw [if_neg (fun z => by have := (nle (by omega) (by omega)).mp z; omega)]
      have hjn : j < ns := by omega
      have ej : rw_ (base + 15 + j) = nI (ju j) := by rw [hju j hjn, if_neg (Nat.lt_irrefl j)]
      have hbj := hb j hjn
      have ei : nI base + 15 + nI j = nI (base + 15 + j) := by rw [show (15 : Int32) = nI 15 from rfl, nI_add, nI_add]
      have nxt : ∀ v, v = aJu1 s j (ju j) → ∃ o, fX8_pass_L113 N (nI base) (sI ns s) x3 n (nI (j + 1)) (upd rw_ (base + 15 + j) (nI v)) = some o ∧ (∀ i, i < ns → o.2 (base + 15 + i) = nI (aJu ns s ju i)) ∧ ∀ q, (q < base + 15 ∨ base + 15 + ns ≤ q) → o.2 q = row q := by
        intro v hv
        refine ih (j + 1) _ (by omega) (by omega) (fun i hi => ?_) (fun q hq2 => ?_)
        · by_cases q : i = j
          · subst q; rw [upd_s, if_pos (by omega), hv]
          · rw [upd_n (by omega), hju i hi]
            by_cases q2 : i < j
            · rw [if_pos q2, if_pos (by omega)]
            · rw [if_neg q2, if_neg (by omega)]
        · rw [upd_n (by omega)]; exact hq q hq2
      rw [ei, ixb_nI (by omega), ej, n_s1]
      by_cases hs : j = s
      · have es : nI j = sI ns s := by unfold sI; rw [if_pos (by omega), hs]
        have em : fX8_least N (nI (ju j) - 2) = some (nI (ju j - 2)) := by
          have : ∀ v, v ≤ 20 → fX8_least 0 (nI v - 2) = some (nI (v - 2)) := by decide +kernel
          exact this _ hbj
        rw [if_pos es, em, bnd_s, ixb_nI (by omega)]
        exact nxt _ (by unfold aJu1; rw [if_pos hs])
      · rw [if_neg (sI_ne h5 (by omega) hs)]
        by_cases h0 : ju j = 0
        · rw [if_pos (show nI (ju j) = 0 by rw [h0]; rfl), ixb_nI (by omega)]
          exact nxt 0 (by unfold aJu1; rw [if_neg hs, if_pos h0])
        · have em : fX8_most N (nI (ju j) + 1) 20 = some (nI (min 20 (ju j + 1))) := by
            have : ∀ v, v ≤ 20 → fX8_most 0 (nI v + 1) 20 = some (nI (min 20 (v + 1))) := by decide +kernel
            exact this _ hbj
          rw [if_neg (show ¬ nI (ju j) = 0 from fun z => h0 ((neq (b := 0) (by omega) (by omega)).mp z)), em, bnd_s, ixb_nI (by omega)]
          exact nxt _ (by unfold aJu1; rw [if_neg hs, if_neg h0])
theorem m_thr (N : Nat) {nc nb base : Nat} {row : Nat → Int32} (h : nc ≤ 12) (hb : nb ≤ nc) (hbs : base ≤ 484) (e : row base = nI nb) (e26 : row 26 = nI nc) : fX8_isThrough N row (nI base) = some (b2i (decide (nc ≤ nb))) := by
  unfold fX8_isThrough
  rw [show nI base + 0 = nI base from nI_add base 0, ixb_nI (by omega), e, e26]
  by_cases q : nc ≤ nb
  · rw [if_pos ((neq (by omega) (by omega)).mpr (by omega))]; simp [q, b2i]
  · rw [if_neg (fun z => by have := (neq (by omega) (by omega)).mp z; omega)]; simp [q, b2i]
/-- the canal's own numbers stand at 25 .. 40, the count of undos at 41 -/
theorem m_pass2 (N : Nat) (hN : 1000 ≤ N) {nc np ns fr T base : Nat} {kd wt : Nat → Nat} {m : AM} {row : Nat → Int32} (hB : CAB nc np ns fr kd wt) (hM : MBD nc np ns T m) (hT : T ≤ 20000) (hC : MCA nc np ns fr kd wt row) (hbs : base ≤ 484) (hb0 : base = 0 ∨ 42 ≤ base) (hO : MOM nc ns base m row) (s : Nat) :
    ∃ row', fX8_pass N row (nI base) (sI ns s) = some row' ∧ MOM nc ns base (aPass nc np ns fr kd wt m s) row' ∧ ∀ q, (q < base ∨ base + 15 + ns ≤ q) → row' q = row q := by
  have Q := QR.of hB hC
  have TT := TR.of hB hM hC hbs hO
  obtain ⟨o1, o2, o3, o4, o5⟩ := hO
  obtain ⟨m1, m2, m3, m4, m5⟩ := hM
  have h12 := hB.1
  have h5 := hB.2.2.1
  have hfr := hB.2.2.2.1
  have e0 : nI base + 0 = nI base := nI_add base 0
  have e1 : nI base + 1 = nI (base + 1) := n_s1 base
  -- the juice, from any row that differs in the boat and the ice alone
  have ju : ∀ (rw1 : Nat → Int32) (x3 : Int32), (∀ q, (q < base ∨ (base + 1 ≤ q ∧ q < base + 3) ∨ base + 15 ≤ q) → rw1 q = row q) → ∃ o, fX8_pass_L113 N (nI base) (sI ns s) x3 N 0 rw1 = some o ∧ (∀ i, i < ns → o.2 (base + 15 + i) = nI (aJu ns s m.2.2.2.2.1 i)) ∧ ∀ q, (q < base + 15 ∨ base + 15 + ns ≤ q) → o.2 q = rw1 q := by
    intro rw1 x3 hq
    exact m_ju_L N (row := rw1) h5 hbs (by omega) (fun j hj => (m5 j hj).1) ((hq 28 (by omega)).trans hC.2.2.2.1) N 0 rw1 (by omega) (by omega) (fun i hi => by rw [hq _ (by omega), if_neg (Nat.not_lt_zero _)]; exact (o5 i hi).1) (fun _ _ => rfl)
  -- the end, common to all ways
  have fin : ∀ (rw1 o : Nat → Int32) (nb' : Nat) (ic' : Nat → Nat), (∀ q, (q < base ∨ (base + 1 ≤ q ∧ q < base + 3) ∨ base + 15 ≤ q) → rw1 q = row q) → rw1 base = nI nb' → (∀ j, j < nc → rw1 (base + 3 + j) = nI (ic' j)) → (∀ i, i < ns → o (base + 15 + i) = nI (aJu ns s m.2.2.2.2.1 i)) → (∀ q, (q < base + 15 ∨ base + 15 + ns ≤ q) → o q = rw1 q) → MOM nc ns base (nb', m.2.1 + 1, m.2.2.1, ic', aJu ns s m.2.2.2.2.1, m.2.2.2.2.2) (upd o (base + 1) (o (base + 1) + 1)) ∧ ∀ q, (q < base ∨ base + 15 + ns ≤ q) → upd o (base + 1) (o (base + 1) + 1) q = row q := by
    intro rw1 o nb' ic' hq hb' hi' hj hq2
    refine ⟨⟨?_, ?_, ?_, fun j hj2 => ?_, fun j hj2 => ⟨?_, ?_⟩⟩, fun q hq3 => ?_⟩
    · rw [upd_n (by omega), hq2 _ (by omega)]; exact hb'
    · rw [upd_s, hq2 _ (by omega), hq _ (by omega), o2, n_s1]
    · rw [upd_n (by omega), hq2 _ (by omega), hq _ (by omega)]; exact o3
    · rw [upd_n (by omega), hq2 _ (by omega)]; exact hi' j hj2
    · rw [upd_n (by omega)]; exact hj j hj2
    · rw [upd_n (by omega), hq2 _ (by omega), hq _ (by omega)]; exact (o5 j hj2).2
    · rw [upd_n (by omega), hq2 _ (by omega), hq _ (by omega)]
  -- the way of a given rock
  have way : ∀ (rk : Nat), rk = aRk np ns kd wt m s → rk ≤ 400 → m.1 < nc → ∃ rw1 : Nat → Int32, (∀ q, (q < base ∨ (base + 1 ≤ q ∧ q < base + 3) ∨ base + 15 ≤ q) → rw1 q = row q) ∧ rw1 base = nI (aStep nc fr (aRk np ns kd wt m s) m.1 m.2.2.2.1).1 ∧ (∀ j, j < nc → rw1 (base + 3 + j) = nI ((aStep nc fr (aRk np ns kd wt m s) m.1 m.2.2.2.1).2 j)) ∧ (∀ (k : (Nat → Int32) → Option (Nat → Int32)), (ixb ((nI base + 3) + row base) 525 fun κ51 => bnd (fX8_least N (row κ51 - nI rk)) fun o52 => ixb ((nI base + 3) + row base) 525 fun κ54 => ixb ((nI base + 3) + row base) 525 fun κ55 =>
      if ((upd row κ54 o52) κ55) = 0 then k (upd (upd row κ54 o52) base (((upd row κ54 o52) base) + 1))
      else ixb ((nI base + 3) + row base) 525 fun κ57 => bnd (fX8_most N (((upd row κ54 o52) κ57) + ((upd row κ54 o52) 25)) 60) fun o58 => ixb ((nI base + 3) + row base) 525 fun κ60 => k (upd (upd row κ54 o52) κ60 o58)) = k rw1) := by
    intro rk hrk hr4 hlt
    have ep : (nI base + 3) + row base = nI (base + 3 + m.1) := by rw [o1, show (3 : Int32) = nI 3 from rfl, nI_add, nI_add]
    have ei := o4 m.1 hlt
    have hi60 := m4 m.1 hlt
    have el : fX8_least N (nI (m.2.2.2.1 m.1) - nI rk) = some (nI (m.2.2.2.1 m.1 - rk)) := by
      unfold fX8_least
      by_cases q : rk ≤ m.2.2.2.1 m.1
      · refine (if_pos (show 0 ≤ nI (m.2.2.2.1 m.1) - nI rk by rw [Int32.le_iff_toInt_le, pk_sub_toInt (by omega) (by omega), show (0 : Int32).toInt = 0 from rfl]; omega)).trans ?_
        rw [n_sub q]
      · refine (if_neg (show ¬ 0 ≤ nI (m.2.2.2.1 m.1) - nI rk from fun z => by rw [Int32.le_iff_toInt_le, pk_sub_toInt (by omega) (by omega), show (0 : Int32).toInt = 0 from rfl] at z; omega)).trans ?_
        rw [show m.2.2.2.1 m.1 - rk = 0 by omega]; rfl
    simp only [ep, ixb_nI (show base + 3 + m.1 < 525 by omega), ixb_nI (show base < 525 by omega), ei, el, bnd_s, upd_s]
    unfold aStep
    rw [if_neg (show ¬ nc ≤ m.1 by omega), ← hrk]
    by_cases q : m.2.2.2.1 m.1 ≤ rk
    · refine ⟨_, ?_, ?_, ?_, fun k => if_pos (show nI (m.2.2.2.1 m.1 - rk) = 0 by rw [show m.2.2.2.1 m.1 - rk = 0 by omega]; rfl)⟩
      · intro z hz; rw [upd_n (by omega), upd_n (by omega)]
      · rw [upd_s, upd_n (by omega), o1, if_pos q, n_s1]
      · intro j hj
        rw [upd_n (by omega), if_pos q]
        show _ = nI (if j = m.1 then 0 else m.2.2.2.1 j)
        by_cases qj : j = m.1
        · subst qj; rw [upd_s, if_pos rfl, show m.2.2.2.1 m.1 - rk = 0 by omega]
        · rw [upd_n (by omega), if_neg qj]; exact o4 j hj
    · have em : fX8_most N (nI (m.2.2.2.1 m.1 - rk) + nI fr) 60 = some (nI (min 60 (m.2.2.2.1 m.1 - rk + fr))) := by
        unfold fX8_most
        rw [nI_add]
        by_cases q2 : m.2.2.2.1 m.1 - rk + fr ≤ 60
        · refine (if_pos (show nI (m.2.2.2.1 m.1 - rk + fr) ≤ 60 from (nle (b := 60) (by omega) (by omega)).mpr q2)).trans ?_
          rw [Nat.min_eq_right q2]
        · refine (if_neg (show ¬ nI (m.2.2.2.1 m.1 - rk + fr) ≤ 60 from fun z => q2 ((nle (b := 60) (by omega) (by omega)).mp z))).trans ?_
          rw [Nat.min_eq_left (by omega)]; rfl
      have e25 : upd row (base + 3 + m.1) (nI (m.2.2.2.1 m.1 - rk)) 25 = nI fr := by rw [upd_n (by omega)]; exact hC.1
      refine ⟨_, ?_, ?_, ?_, fun k => (if_neg (show ¬ nI (m.2.2.2.1 m.1 - rk) = 0 from fun z => by have := (neq (b := 0) (by omega) (by omega)).mp z; omega)).trans (by rw [e25, em, bnd_s])⟩
      · intro z hz; rw [upd_n (by omega), upd_n (by omega)]
      · rw [upd_n (by omega), upd_n (by omega), o1, if_neg q]
      · intro j hj
        rw [if_neg q]
        show _ = nI (if j = m.1 then min 60 (m.2.2.2.1 m.1 - rk + fr) else m.2.2.2.1 j)
        by_cases qj : j = m.1
        · subst qj; rw [upd_s, if_pos rfl]
        · rw [upd_n (by omega), upd_n (by omega), if_neg qj]; exact o4 j hj
  have thr := m_thr N h12 m1 hbs o1 hC.2.1
  unfold fX8_pass
  by_cases hsn : s < ns
  · have es : sI ns s = nI s := by unfold sI; rw [if_pos hsn]
    have er : aRk np ns kd wt m s = rok np kd wt m.2.2.2.2.1 m.2.2.2.2.2 m.2.1 s := by unfold aRk; rw [if_pos hsn]
    have hne : ¬ sI ns s = -4 := by rw [es]; intro z; have := congrArg Int32.toInt z; rw [tI s (by omega), show ((-4 : Int32)).toInt = -4 by decide] at this; omega
    have hrk : rok np kd wt m.2.2.2.2.1 m.2.2.2.2.2 m.2.1 s ≤ 336 := brk_le hB.2.1 (fun q hq => (hB.2.2.2.2 q hq).2.2) (m5 s hsn).1
    have rk := m_rock N hN Q TT o2 (by omega) hsn
    rw [← es] at rk
    rw [if_neg hne, rk, bnd_s, thr, bnd_s, ite_b2i]
    simp only [decide_eq_true_eq, e0, e1, ixb_nI (show base < 525 by omega), ixb_nI (show base + 1 < 525 by omega)]
    by_cases ht : nc ≤ m.1
    · obtain ⟨o, ho, j1, j2⟩ := ju row (nI (rok np kd wt m.2.2.2.2.1 m.2.2.2.2.2 m.2.1 s)) (fun _ _ => rfl)
      have f := fin row o.2 m.1 m.2.2.2.1 (fun _ _ => rfl) o1 o4 j1 j2
      rw [if_pos ht, ho, bnd_s]
      refine ⟨_, rfl, ?_, f.2⟩
      have ea : aPass nc np ns fr kd wt m s = (m.1, m.2.1 + 1, m.2.2.1, m.2.2.2.1, aJu ns s m.2.2.2.2.1, m.2.2.2.2.2) := by unfold aPass aStep; rw [if_pos ht]
      rw [ea]; exact f.1
    · obtain ⟨rw1, w1, w2, w3, w4⟩ := way _ er.symm (by omega) (by omega)
      obtain ⟨o, ho, j1, j2⟩ := ju rw1 (nI (rok np kd wt m.2.2.2.2.1 m.2.2.2.2.2 m.2.1 s)) w1
      have f := fin rw1 o.2 _ _ w1 w2 w3 j1 j2
      rw [if_neg ht]
      refine ⟨_, (w4 (fun r => bnd (fX8_pass_L113 N (nI base) (sI ns s) (nI (rok np kd wt m.2.2.2.2.1 m.2.2.2.2.2 m.2.1 s)) N 0 r) fun o67 => some (upd o67.2 (base + 1) (o67.2 (base + 1) + 1)))).trans (bnd_eq ho), f.1, f.2⟩
  · have es : sI ns s = -4 := by unfold sI; rw [if_neg hsn]
    have er : aRk np ns kd wt m s = 0 := by unfold aRk; rw [if_neg hsn]
    rw [if_pos es, thr, bnd_s, ite_b2i]
    simp only [decide_eq_true_eq, e0, e1, ixb_nI (show base < 525 by omega), ixb_nI (show base + 1 < 525 by omega)]
    by_cases ht : nc ≤ m.1
    · obtain ⟨o, ho, j1, j2⟩ := ju row 0 (fun _ _ => rfl)
      have f := fin row o.2 m.1 m.2.2.2.1 (fun _ _ => rfl) o1 o4 j1 j2
      rw [if_pos ht, ho, bnd_s]
      refine ⟨_, rfl, ?_, f.2⟩
      have ea : aPass nc np ns fr kd wt m s = (m.1, m.2.1 + 1, m.2.2.1, m.2.2.2.1, aJu ns s m.2.2.2.2.1, m.2.2.2.2.2) := by unfold aPass aStep; rw [if_pos ht]
      rw [ea]; exact f.1
    · obtain ⟨rw1, w1, w2, w3, w4⟩ := way 0 er.symm (by omega) (by omega)
      rw [show (nI 0 : Int32) = 0 from rfl] at w4
      obtain ⟨o, ho, j1, j2⟩ := ju rw1 0 w1
      have f := fin rw1 o.2 _ _ w1 w2 w3 j1 j2
      rw [if_neg ht]
      refine ⟨_, (w4 (fun r => bnd (fX8_pass_L113 N (nI base) (sI ns s) 0 N 0 r) fun o67 => some (upd o67.2 (base + 1) (o67.2 (base + 1) + 1)))).trans (bnd_eq ho), f.1, f.2⟩
theorem m_pass (N : Nat) (hN : 1000 ≤ N) {nc np ns fr T base : Nat} {kd wt : Nat → Nat} {m : AM} {row : Nat → Int32} (hB : CAB nc np ns fr kd wt) (hM : MBD nc np ns T m) (hT : T ≤ 20000) (hC : MCA nc np ns fr kd wt row) (hbs : base ≤ 484) (hb0 : base = 0 ∨ 42 ≤ base) (hO : MOM nc ns base m row) (s : Nat) :
    ∃ row', fX8_pass N row (nI base) (sI ns s) = some row' ∧ MOM nc ns base (aPass nc np ns fr kd wt m s) row' ∧ ∀ q, (q < base ∨ base + 20 ≤ q) → row' q = row q := by
  obtain ⟨r, h1, h2, h3⟩ := m_pass2 N hN hB hM hT hC hbs hb0 hO s
  have := hB.2.2.1
  exact ⟨r, h1, h2, fun q hq => h3 q (by omega)⟩
