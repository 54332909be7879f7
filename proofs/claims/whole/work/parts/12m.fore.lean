/-! PURE: what is foretold, step by step -/
def aNx (r : Nat → Nat) : Nat → Nat
  | 0 => 0
  | j + 1 => if r j ≤ r (aNx r j) then aNx r j else j
theorem aNx_lt (r : Nat → Nat) : ∀ j, 0 < j → aNx r j < j
  | 0, h => absurd h (Nat.lt_irrefl _)
  | j + 1, _ => by
    unfold aNx
    split
    · by_cases q : j = 0
      · subst q; simp [aNx]
      · have := aNx_lt r j (by omega); omega
    · omega
theorem c_most_L (N : Nat) (hN : 1000 ≤ N) {np ns : Nat} {kd wt ju fo : Nat → Nat} {kind weight juice fors : Nat → Int32} (H : PR np kd wt kind weight) (S : SR ns np ju fo juice fors) {nm : Nat} (hm : nm < 2 ^ 31) : ∀ (n j : Nat), j ≤ ns → ns - j < n → ∃ o, fX0_mostRocking_L8 N (nI np) (nI ns) kind weight (nI nm) juice fors n (if j = 0 then -4 else nI (aNx (rok np kd wt ju fo nm) j)) (if j = 0 then -1 else nI (rok np kd wt ju fo nm (aNx (rok np kd wt ju fo nm) j))) (nI j) = some o ∧ o.1 = if ns = 0 then -4 else nI (aNx (rok np kd wt ju fo nm) ns) := by
  have h5 := S.1
  intro n
  induction n with
  | zero => intro j hj hn; omega
  | succ n ih =>
    intro j hj hn
    rw [fX0_mostRocking_L8]
    by_cases he : j = ns
    · subst he
      exact ⟨_, if_pos ((nle (by omega) (by omega)).mpr (Nat.le_refl _)), rfl⟩
    · have hjn : j < ns := by omega
      rw [if_neg (fun z => by have := (nle (by omega) (by omega)).mp z; omega), c_rock N hN H S hm hjn, bnd_s, n_s1]
      have hb := rok_le H S (nm := nm) hjn
      have := ih (j + 1) (by omega) (by omega)
      rw [if_neg (by omega), if_neg (by omega)] at this
      by_cases h0 : j = 0
      · subst h0
        refine (this.imp (fun o h => ⟨(if_neg (show ¬ nI (rok np kd wt ju fo nm 0) ≤ (if (0 : Nat) = 0 then -1 else _) from fun z => ?_)).trans ?_, h.2⟩))
        · rw [if_pos rfl, Int32.le_iff_toInt_le, tI _ (by omega), show ((-1 : Int32)).toInt = -1 by decide] at z; omega
        · have e : aNx (rok np kd wt ju fo nm) (0 + 1) = 0 := by simp [aNx]
          rw [e] at h; exact h.1
      · rw [if_neg h0, if_neg h0]
        have hl := aNx_lt (rok np kd wt ju fo nm) j (by omega)
        have hb2 := rok_le H S (nm := nm) (show aNx (rok np kd wt ju fo nm) j < ns by omega)
        have eu : aNx (rok np kd wt ju fo nm) (j + 1) = if rok np kd wt ju fo nm j ≤ rok np kd wt ju fo nm (aNx (rok np kd wt ju fo nm) j) then aNx (rok np kd wt ju fo nm) j else j := rfl
        by_cases q : rok np kd wt ju fo nm j ≤ rok np kd wt ju fo nm (aNx (rok np kd wt ju fo nm) j)
        · rw [eu, if_pos q] at this
          rw [if_pos ((nle (by omega) (by omega)).mpr q)]; exact this
        · rw [eu, if_neg q] at this
          rw [if_neg (fun z => q ((nle (by omega) (by omega)).mp z))]; exact this
theorem nx_sI (r : Nat → Nat) (ns : Nat) : (if ns = 0 then -4 else nI (aNx r ns)) = sI ns (aNx r ns) := by
  unfold sI
  by_cases h : ns = 0
  · rw [if_pos h, if_neg (by omega)]
  · rw [if_neg h, if_pos (aNx_lt r ns (by omega))]
theorem c_most (N : Nat) (hN : 1000 ≤ N) {np ns : Nat} {kd wt ju fo : Nat → Nat} {kind weight juice fors : Nat → Int32} (H : PR np kd wt kind weight) (S : SR ns np ju fo juice fors) {nm : Nat} (hm : nm < 2 ^ 31) : fX0_mostRocking N (nI np) (nI ns) kind weight (nI nm) juice fors = some (sI ns (aNx (rok np kd wt ju fo nm) ns)) := by
  have h5 := S.1
  obtain ⟨o, h1, h2⟩ := c_most_L N hN H S hm N 0 (by omega) (by omega)
  unfold fX0_mostRocking
  rw [if_pos rfl, if_pos rfl, show (nI 0 : Int32) = 0 from rfl] at h1
  rw [h1, bnd_s, h2, nx_sI]
theorem m_next_L (N : Nat) (hN : 1000 ≤ N) {np ns base : Nat} {kd wt ju fo : Nat → Nat} {row : Nat → Int32} (H : QR np kd wt row) (S : TR base ns np ju fo row) {nm : Nat} (hm : row (base + 1) = nI nm) (hm2 : nm < 2 ^ 31) : ∀ (n j : Nat), j ≤ ns → ns - j < n → ∃ o, fX8_nextAt_L5 N (nI base) row n (if j = 0 then -4 else nI (aNx (rok np kd wt ju fo nm) j)) (nI j) = some o ∧ o.1 = if ns = 0 then -4 else nI (aNx (rok np kd wt ju fo nm) ns) := by
  have h5 := S.2.1
  have rl : ∀ s, s < ns → rok np kd wt ju fo nm s ≤ 336 := fun s hs => brk_le H.1 (fun q hq => (H.2.2 q (by omega)).2.2.2.2) (S.2.2.2 s hs).2.2.1
  intro n
  induction n with
  | zero => intro j hj hn; omega
  | succ n ih =>
    intro j hj hn
    rw [fX8_nextAt_L5, S.2.2.1]
    by_cases he : j = ns
    · subst he
      exact ⟨_, if_pos ((nle (by omega) (by omega)).mpr (Nat.le_refl _)), rfl⟩
    · have hjn : j < ns := by omega
      have := ih (j + 1) (by omega) (by omega)
      rw [if_neg (by omega)] at this
      rw [if_neg (fun z => by have := (nle (by omega) (by omega)).mp z; omega), n_s1]
      by_cases h0 : j = 0
      · subst h0
        have e : aNx (rok np kd wt ju fo nm) (0 + 1) = 0 := by simp [aNx]
        rw [e] at this
        rw [if_pos rfl, if_pos rfl]; exact this
      · have hl := aNx_lt (rok np kd wt ju fo nm) j (by omega)
        rw [if_neg h0, if_neg (fun z => by have := congrArg Int32.toInt z; rw [tI _ (by omega), show ((-4 : Int32)).toInt = -4 by decide] at this; omega), m_rock N hN H S hm hm2 hjn, bnd_s, m_rock N hN H S hm hm2 (by omega), bnd_s]
        have hb := rl j hjn
        have hb2 := rl (aNx (rok np kd wt ju fo nm) j) (by omega)
        have eu : aNx (rok np kd wt ju fo nm) (j + 1) = if rok np kd wt ju fo nm j ≤ rok np kd wt ju fo nm (aNx (rok np kd wt ju fo nm) j) then aNx (rok np kd wt ju fo nm) j else j := rfl
        by_cases q : rok np kd wt ju fo nm j ≤ rok np kd wt ju fo nm (aNx (rok np kd wt ju fo nm) j)
        · rw [eu, if_pos q] at this
          rw [if_pos ((nle (by omega) (by omega)).mpr q)]; exact this
        · rw [eu, if_neg q] at this
          rw [if_neg (fun z => q ((nle (by omega) (by omega)).mp z))]; exact this
theorem m_next (N : Nat) (hN : 1000 ≤ N) {np ns base : Nat} {kd wt ju fo : Nat → Nat} {row : Nat → Int32} (H : QR np kd wt row) (S : TR base ns np ju fo row) {nm : Nat} (hm : row (base + 1) = nI nm) (hm2 : nm < 2 ^ 31) : fX8_nextAt N row (nI base) = some (sI ns (aNx (rok np kd wt ju fo nm) ns)) := by
  have h5 := S.2.1
  obtain ⟨o, h1, h2⟩ := m_next_L N hN H S hm hm2 N 0 (by omega) (by omega)
  unfold fX8_nextAt
  rw [if_pos rfl, show (nI 0 : Int32) = 0 from rfl] at h1
  rw [h1, bnd_s, h2, nx_sI]
theorem n_ne4 {a : Nat} (h : a < 2 ^ 31) : ¬ nI a = -4 := fun z => by have := congrArg Int32.toInt z; rw [tI _ (by omega), show ((-4 : Int32)).toInt = -4 by decide] at this; omega
/-! SIM next -/
theorem sim_next (N : Nat) (hN : 1000 ≤ N) : Simnext N Rel := by
  intro S M y0 hR
  obtain ⟨⟨c, m, k, h, hB, hC, hM⟩, hI, hT, hD, hZ⟩ := id hR
  have h5 := hB.1.2.2.1
  have hmm := hB.2.1.2.1
  have e1 : S.1.2.1 = nI c.2.1 := hC.1.2.1
  have e2 : S.1.2.2.1 = nI c.2.2.1 := hC.1.2.2.1
  have e3 : S.1.2.2.2.2.2.2.2.1 = nI m.2.1 := hC.2.1.2.1
  have P := PR.of hB.1 hC.1
  have Q := QR.of hB.1 hM.1
  have SS := SR.of hB.1 hB.2.1 hC.2.1
  have TT := TR.of hB.1 hB.2.1 hM.1 (by omega) hM.2.1
  have mn := m_next N hN Q TT hM.2.1.2.1 (by omega)
  rw [show (nI 0 : Int32) = 0 from rfl] at mn
  unfold fX7_next fX8_next
  rw [e1, e2, e3, c_within, m_in32, bnd_s, bnd_s, ite_b2i, ite_b2i, c_most N hN P SS (by omega), bnd_s, mn, bnd_s, c_hasSaying N _ (by omega), bnd_s, ite_b2i]
  simp only [L64, L32, decide_eq_true_eq]
  by_cases hy : 0 ≤ y0.toInt ∧ y0.toInt ≤ 1
  · rw [if_pos hy, if_pos hy]
    by_cases h0 : c.2.2.1 = 0
    · have es : sI c.2.2.1 (aNx (rok c.2.1 c.2.2.2.2.1 c.2.2.2.2.2 m.2.2.2.2.1 m.2.2.2.2.2 m.2.1) c.2.2.1) = -4 := by rw [← nx_sI, if_pos h0]
      rw [es, if_neg (by rw [show ((-4 : Int32)).toInt = -4 by decide]; omega), if_pos rfl]
      exact ⟨_, _, rfl, rfl, rfl, hR⟩
    · have hl := aNx_lt (rok c.2.1 c.2.2.2.2.1 c.2.2.2.2.2 m.2.2.2.2.1 m.2.2.2.2.2 m.2.1) c.2.2.1 (by omega)
      have es : sI c.2.2.1 (aNx (rok c.2.1 c.2.2.2.2.1 c.2.2.2.2.2 m.2.2.2.2.1 m.2.2.2.2.2 m.2.1) c.2.2.1) = nI (aNx (rok c.2.1 c.2.2.2.2.1 c.2.2.2.2.2 m.2.2.2.2.1 m.2.2.2.2.2 m.2.1) c.2.2.1) := by rw [← nx_sI, if_neg h0]
      have mr := m_rock N hN Q TT hM.2.1.2.1 (by omega) hl
      rw [show (nI 0 : Int32) = 0 from rfl] at mr
      rw [es, if_pos (by rw [tI _ (by omega)]; omega), if_neg (n_ne4 (show aNx (rok c.2.1 c.2.2.2.2.1 c.2.2.2.2.2 m.2.2.2.2.1 m.2.2.2.2.2 m.2.1) c.2.2.1 < 2 ^ 31 by omega)), c_rock N hN P SS (by omega) hl, bnd_s, mr, bnd_s]
      by_cases q : y0 = 0
      · rw [if_pos q]; exact ⟨_, _, rfl, rfl, rfl, hR⟩
      · rw [if_neg q]; exact ⟨_, _, rfl, rfl, rfl, hR⟩
  · rw [if_neg hy, if_neg hy]; exact ⟨_, _, rfl, rfl, rfl, hR⟩
/-! a try: a moment of its own beside the canal -/
def aG (c : AC) (m : AM) : AM := aPass c.1 c.2.1 c.2.2.1 c.2.2.2.1 c.2.2.2.2.1 c.2.2.2.2.2 m (aNx (rok c.2.1 c.2.2.2.2.1 c.2.2.2.2.2 m.2.2.2.2.1 m.2.2.2.2.2 m.2.1) c.2.2.1)
def CAB' (c : AC) : Prop := CAB c.1 c.2.1 c.2.2.1 c.2.2.2.1 c.2.2.2.2.1 c.2.2.2.2.2
def CCA' (c : AC) (C : BV_canal) : Prop := CCA c.1 c.2.1 c.2.2.1 c.2.2.2.1 c.2.2.2.2.1 c.2.2.2.2.2 C.1 C.2.1 C.2.2.1 C.2.2.2.1 C.2.2.2.2.1 C.2.2.2.2.2.1
def MCA' (c : AC) (row : Nat → Int32) : Prop := MCA c.1 c.2.1 c.2.2.1 c.2.2.2.1 c.2.2.2.2.1 c.2.2.2.2.2 row
theorem fore_pass (N : Nat) (hN : 1000 ≤ N) {c : AC} {C : BV_canal} {m : AM} {T : Nat} {boat minute draw : Int32} {ice juice fors row row' : Nat → Int32} (hB : CAB' c) (hC : CCA' c C) (hM : MCA' c row) (hb : MBD c.1 c.2.1 c.2.2.1 T m) (hT : T ≤ 20000) (hO : CMO c.1 c.2.2.1 m boat minute draw ice juice fors) (hO' : MOM c.1 c.2.2.1 484 m row') (e : ∀ q, q < 484 → row' q = row q) (s : Nat) (hs : s < 2 ^ 31) :
    ∃ o r, fX0_pass N C.1 C.2.1 C.2.2.1 C.2.2.2.1 C.2.2.2.2.1 C.2.2.2.2.2.1 boat minute ice juice fors (sI c.2.2.1 s) = some o ∧ fX8_pass N row' 484 (sI c.2.2.1 s) = some r ∧ MBD c.1 c.2.1 c.2.2.1 (T + 1) (aPass c.1 c.2.1 c.2.2.1 c.2.2.2.1 c.2.2.2.2.1 c.2.2.2.2.2 m s) ∧ CMO c.1 c.2.2.1 (aPass c.1 c.2.1 c.2.2.1 c.2.2.2.1 c.2.2.2.2.1 c.2.2.2.2.2 m s) o.1 o.2.1 draw o.2.2.1 o.2.2.2 fors ∧ MOM c.1 c.2.2.1 484 (aPass c.1 c.2.1 c.2.2.1 c.2.2.2.1 c.2.2.2.2.1 c.2.2.2.2.2 m s) r ∧ ∀ q, q < 484 → r q = row q := by
  have hM' : MCA' c row' := mca_agree hB.2.1 hM (fun q h1 h2 => e q (by omega))
  obtain ⟨o, h1, h2⟩ := c_pass N hN hB hb hT hC hO s hs
  obtain ⟨r, h3, h4, h5⟩ := m_pass N hN (base := 484) hB hb hT hM' (by omega) (by omega) hO' s
  exact ⟨o, r, h1, h3, aPass_bd hb, h2, h4, fun q hq => (h5 q (by omega)).trans (e q hq)⟩
theorem fore_most (N : Nat) (hN : 1000 ≤ N) {c : AC} {C : BV_canal} {m : AM} {T : Nat} {boat minute draw : Int32} {ice juice fors row row' : Nat → Int32} (hB : CAB' c) (hC : CCA' c C) (hM : MCA' c row) (hb : MBD c.1 c.2.1 c.2.2.1 T m) (hT : T ≤ 20000) (hO : CMO c.1 c.2.2.1 m boat minute draw ice juice fors) (hO' : MOM c.1 c.2.2.1 484 m row') (e : ∀ q, q < 484 → row' q = row q) :
    fX0_mostRocking N C.2.1 C.2.2.1 C.2.2.2.2.1 C.2.2.2.2.2.1 minute juice fors = some (sI c.2.2.1 (aNx (rok c.2.1 c.2.2.2.2.1 c.2.2.2.2.2 m.2.2.2.2.1 m.2.2.2.2.2 m.2.1) c.2.2.1)) ∧ fX8_nextAt N row' 484 = some (sI c.2.2.1 (aNx (rok c.2.1 c.2.2.2.2.1 c.2.2.2.2.2 m.2.2.2.2.1 m.2.2.2.2.2 m.2.1) c.2.2.1)) := by
  have hM' : MCA' c row' := mca_agree hB.2.1 hM (fun q h1 h2 => e q (by omega))
  have hmm := hb.2.1
  refine ⟨?_, m_next N hN (QR.of hB hM') (TR.of hB hb hM' (by omega) hO') hO'.2.1 (by omega)⟩
  rw [hC.2.1, hC.2.2.1, hO.2.1]
  exact c_most N hN (PR.of hB hC) (SR.of hB hb hO) (by omega)
theorem fore_step (N : Nat) (hN : 1000 ≤ N) {c : AC} {C : BV_canal} {m : AM} {T : Nat} {boat minute draw : Int32} {ice juice fors row row' : Nat → Int32} (hB : CAB' c) (hC : CCA' c C) (hM : MCA' c row) (hb : MBD c.1 c.2.1 c.2.2.1 T m) (hT : T ≤ 20000) (hO : CMO c.1 c.2.2.1 m boat minute draw ice juice fors) (hO' : MOM c.1 c.2.2.1 484 m row') (e : ∀ q, q < 484 → row' q = row q) :
    ∃ x o r, fX0_mostRocking N C.2.1 C.2.2.1 C.2.2.2.2.1 C.2.2.2.2.2.1 minute juice fors = some x ∧ fX0_pass N C.1 C.2.1 C.2.2.1 C.2.2.2.1 C.2.2.2.2.1 C.2.2.2.2.2.1 boat minute ice juice fors x = some o ∧ fX8_nextAt N row' 484 = some x ∧ fX8_pass N row' 484 x = some r ∧ MBD c.1 c.2.1 c.2.2.1 (T + 1) (aG c m) ∧ CMO c.1 c.2.2.1 (aG c m) o.1 o.2.1 draw o.2.2.1 o.2.2.2 fors ∧ MOM c.1 c.2.2.1 484 (aG c m) r ∧ ∀ q, q < 484 → r q = row q := by
  obtain ⟨f1, f2⟩ := fore_most N hN hB hC hM hb hT hO hO' e
  have hl : aNx (rok c.2.1 c.2.2.2.2.1 c.2.2.2.2.2 m.2.2.2.2.1 m.2.2.2.2.2 m.2.1) c.2.2.1 < 2 ^ 31 := by
    have := hB.2.2.1
    by_cases q : c.2.2.1 = 0
    · rw [q]; simp [aNx]
    · have := aNx_lt (rok c.2.1 c.2.2.2.2.1 c.2.2.2.2.2 m.2.2.2.2.1 m.2.2.2.2.2 m.2.1) c.2.2.1 (by omega); omega
  obtain ⟨o, r, p1, p2, p3, p4, p5, p6⟩ := fore_pass N hN hB hC hM hb hT hO hO' e _ hl
  exact ⟨_, o, r, f1, p1, f2, p2, p3, p4, p5, p6⟩
theorem lay_mom {nc ns : Nat} {m : AM} {row : Nat → Int32} (h12 : nc ≤ 12) (h5 : ns ≤ 5) (h : MOM nc ns 0 m row) : MOM nc ns 484 m (va_cpy row row 0 484 41) := by
  have e : ∀ q, q < 25 → va_cpy row row 0 484 41 (484 + q) = row q := fun q hq => by rw [pk_cpy_in (by omega) (by omega)]; exact congrArg row (by omega)
  obtain ⟨a1, a2, a3, a4, a5⟩ := h
  refine ⟨(e 0 (by omega)).trans a1, (e 1 (by omega)).trans a2, (e 2 (by omega)).trans a3, fun j hj => ?_, fun j hj => ⟨?_, ?_⟩⟩
  · rw [Nat.add_assoc, e _ (by omega)]; have := a4 j hj; rwa [Nat.zero_add] at this
  · rw [Nat.add_assoc, e _ (by omega)]; have := (a5 j hj).1; rwa [Nat.zero_add] at this
  · rw [Nat.add_assoc, e _ (by omega)]; have := (a5 j hj).2; rwa [Nat.zero_add] at this
theorem lay_low {row : Nat → Int32} : ∀ q, q < 484 → va_cpy row row 0 484 41 q = row q := fun q hq => pk_cpy_out (by omega)
theorem cmo_take {nc ns : Nat} {m : AM} {boat minute draw : Int32} {ice juice fors i2 j2 f2 : Nat → Int32} (h12 : nc ≤ 12) (h5 : ns ≤ 5) (h : CMO nc ns m boat minute draw ice juice fors) : CMO nc ns m boat minute draw (va_cpy ice i2 0 0 12) (va_cpy juice j2 0 0 5) (va_cpy fors f2 0 0 5) := by
  obtain ⟨a1, a2, a3, a4, a5⟩ := h
  exact ⟨a1, a2, a3, fun j hj => by rw [sb_cpy0 (by omega)]; exact a4 j hj, fun j hj => ⟨by rw [sb_cpy0 (by omega)]; exact (a5 j hj).1, by rw [sb_cpy0 (by omega)]; exact (a5 j hj).2⟩⟩
theorem snm_agree {c : AC} {m : AM} {k : Nat} {h : Nat → AM} {row row' : Nat → Int32} (hB : SNB c m k h) (hM : SNM c m k h row) (e : ∀ q, q < 242 → row' q = row q) : SNM c m k h row' :=
  snm_mom hB hM (mom_agree hB.1.1 hB.1.2.2.1 hM.2.1 (fun q _ h2 => e q (by omega))) (fun q _ h2 => e q h2)
theorem c_ahead (N : Nat) {nc ns T np : Nat} {m : AM} {boat minute draw : Int32} {ice juice fors : Nat → Int32} (h12 : nc ≤ 12) (hb : MBD nc np ns T m) (h : CMO nc ns m boat minute draw ice juice fors) : fX0_iceAhead N (nI nc) boat ice = some (nI (if nc ≤ m.1 then 0 else m.2.2.2.1 m.1)) := by
  have h1 := hb.1
  unfold fX0_iceAhead
  rw [h.1, c_thr N h12 h1, bnd_s, ite_b2i]
  simp only [decide_eq_true_eq]
  by_cases q : nc ≤ m.1
  · rw [if_pos q, if_pos q]; rfl
  · rw [if_neg q, if_neg q, ixb_nI (by omega), h.2.2.2.1 m.1 (by omega)]
theorem m_ahead (N : Nat) {nc ns T np base : Nat} {m : AM} {row : Nat → Int32} (h12 : nc ≤ 12) (hbs : base ≤ 484) (hb : MBD nc np ns T m) (e26 : row 26 = nI nc) (h : MOM nc ns base m row) : fX8_iceAhead N row (nI base) = some (nI (if nc ≤ m.1 then 0 else m.2.2.2.1 m.1)) := by
  have h1 := hb.1
  unfold fX8_iceAhead
  rw [m_thr N h12 h1 hbs h.1 e26, bnd_s, ite_b2i]
  simp only [decide_eq_true_eq]
  by_cases q : nc ≤ m.1
  · rw [if_pos q, if_pos q]; rfl
  · rw [if_neg q, if_neg q, show nI base + 0 = nI base from nI_add base 0, ixb_nI (by omega), h.1, show (3 : Int32) = nI 3 from rfl, nI_add, nI_add, ixb_nI (by omega), h.2.2.2.1 m.1 (by omega)]
