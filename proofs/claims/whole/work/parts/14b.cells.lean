/-! PURE: letters and cells, both in step -/
theorem i10 : ¬ (1 : Int32) = 0 := by decide
theorem c_let_t (N : Nat) (hN : 1000 ≤ N) {tl : Nat} {ch : Nat → Nat} {L T : Nat → Int32} (h : TP tl ch L T) {p x : Nat} (hp : p ≤ tl) (hx : x < 2 ^ 20) (q : hit tl ch p x = true) : fX6_readLetter N (nI tl) (nI p) L (nI x) = some (1, nI (sk tl ch p + 1)) := by
  rw [c_let N hN h hp hx, if_pos q]
theorem c_let_f (N : Nat) (hN : 1000 ≤ N) {tl : Nat} {ch : Nat → Nat} {L T : Nat → Int32} (h : TP tl ch L T) {p x : Nat} (hp : p ≤ tl) (hx : x < 2 ^ 20) (q : ¬ hit tl ch p x = true) : fX6_readLetter N (nI tl) (nI p) L (nI x) = some (0, nI (sk tl ch p)) := by
  rw [c_let N hN h hp hx, if_neg q]
theorem m_sign_t (N : Nat) (hN : 1000 ≤ N) {tl : Nat} {ch : Nat → Nat} {L T : Nat → Int32} (h : TP tl ch L T) {p x : Nat} (hp : p ≤ tl) (hx : x < 2 ^ 20) (q : hit tl ch p x = true) : fX8_sign N (nI tl) (nI (sk tl ch p)) T (nI x) = some (1, nI (sk tl ch (sk tl ch p + 1))) := by
  rw [m_sign N hN h hp hx, if_pos q]
theorem m_sign_f (N : Nat) (hN : 1000 ≤ N) {tl : Nat} {ch : Nat → Nat} {L T : Nat → Int32} (h : TP tl ch L T) {p x : Nat} (hp : p ≤ tl) (hx : x < 2 ^ 20) (q : ¬ hit tl ch p x = true) : fX8_sign N (nI tl) (nI (sk tl ch p)) T (nI x) = some (0, nI (sk tl ch p)) := by
  rw [m_sign N hN h hp hx, if_neg q]
theorem hit_dgt {tl p x : Nat} {ch : Nat → Nat} (hd : dgt tl ch p) (hx : x < 48 ∨ 57 < x) : ¬ hit tl ch p x = true := by
  intro z
  have := (hit_iff.mp z).2
  rw [dgt_sk hd] at this
  have := hd.2
  omega
theorem hit_lt {tl p x : Nat} {ch : Nat → Nat} (q : hit tl ch p x = true) : sk tl ch p + 1 ≤ tl := (hit_iff.mp q).1
def CELLD (nc : Nat) (ice rice : Nat → Int32) : Prop := ∀ j, j < nc → ∃ v : Nat, v ≤ 60 ∧ ice j = nI v ∧ rice j = nI v
theorem CELLD.put {c v : Nat} {ice rice : Nat → Int32} (h : CELLD c ice rice) (hv : v ≤ 60) : CELLD (c + 1) (upd ice c (nI v)) (upd rice c (nI v)) := by
  intro j hj
  by_cases q : j = c
  · exact ⟨v, hv, by rw [q, upd_s], by rw [q, upd_s]⟩
  · obtain ⟨w, h1, h2, h3⟩ := h j (by omega)
    exact ⟨w, h1, by rw [upd_n q, h2], by rw [upd_n q, h3]⟩
def CELLR (tl : Nat) (ch : Nat → Nat) (r : (Int32 × Int32 × Int32 × Int32 × (Nat → Int32)) ⊕ (Int32 × Int32 × Int32 × Int32 × (Nat → Int32))) (r' : Int32 × Int32 × Int32 × Int32 × (Nat → Int32)) : Prop :=
  (∃ q z, q ≤ tl ∧ r = .inl (0, nI q, z) ∧ r'.1 = 0 ∧ r'.2.1 = nI q) ∨
  (∃ q nc x nu nu' ice rice, q ≤ tl ∧ 1 ≤ nc ∧ nc ≤ 12 ∧ r = .inr (x, nI q, nu, nI nc, ice) ∧ r' = (1, nI (sk tl ch q), nu', nI nc, rice) ∧ CELLD nc ice rice) ∨
  (∃ q x z, dgt tl ch q ∧ r = .inr (x, nI q, z) ∧ r'.1 = 0 ∧ r'.2.1 = nI q)
theorem c_addCell (N : Nat) {c : Nat} (hc : c < 12) (ice : Nat → Int32) (v : Int32) : fX0_addCell N (nI c) ice v = some (nI (c + 1) - 1, nI (c + 1), upd ice c v) := by
  unfold fX0_addCell; rw [ixb_nI hc, n_s1]
theorem cells_loop (N : Nat) (hN : 1000 ≤ N) {tl : Nat} {ch : Nat → Nat} {L T : Nat → Int32} (h : TP tl ch L T) : ∀ (n c p : Nat) (nu nu' : Int32) (ice rice : Nat → Int32), c < 12 → 13 - c ≤ n → p ≤ tl → CELLD c ice rice →
    ∃ r r', fX6_readCells_L2 N (nI tl) L n (nI c) (nI p) nu (nI c) ice = some r ∧ (bnd (fX8_readsCell N (nI tl) (nI (sk tl ch p)) nu' (nI c) T rice) fun o => fX8_reads_L29 N (nI tl) T n o.1 o.2.1 o.2.2.1 o.2.2.2.1 o.2.2.2.2) = some r' ∧ CELLR tl ch r r' := by
  have h1 := h.1
  intro n
  induction n with
  | zero => intro c p nu nu' ice rice hc hn; omega
  | succ n ih =>
    intro c p nu nu' ice rice hc hn hp hD
    obtain ⟨o, o', e, e', hr⟩ := num_co N hN h hp (g := 60) (by omega) nu nu'
    have e : fX6_readNumber N (nI tl) (nI p) nu L 60 = some o := e
    have e' : fX8_readsNumber N (nI tl) (nI (sk tl ch p)) nu' T 60 = some o' := e'
    have hcc : ¬ (12 : Int32) ≤ nI c := fun z => by have := (nle (a := 12) (by omega) (by omega)).mp z; omega
    rw [fX6_readCells_L2, if_neg hcc, e, bnd_s]
    unfold fX8_readsCell
    rw [e', bnd_s]
    rcases hr with ⟨q, hq, z1, z2, z3, z4⟩ | ⟨v, q, hv, hq, rfl, rfl⟩ | ⟨v, q, hv, hd, rfl, z3, z4⟩
    · rw [if_pos z1, if_pos z3, bnd_s, fX8_reads_L29, if_pos rfl]
      exact ⟨_, _, rfl, rfl, Or.inl ⟨q, _, hq, by rw [z2], rfl, z4⟩⟩
    · have hD' := hD.put hv
      dsimp only
      rw [if_neg i10, if_neg i10, c_addCell N hc, bnd_s, ixb_nI hc, bnd_s, n_s1]
      dsimp only
      rw [fX8_reads_L29, if_neg i10]
      by_cases q12 : c + 1 = 12
      · rw [if_pos (show nI (c + 1) = 12 by rw [q12]; rfl), if_pos (show (12 : Int32) ≤ nI (c + 1) by rw [q12]; decide)]
        exact ⟨_, _, rfl, rfl, Or.inr (Or.inl ⟨q, c + 1, _, _, _, _, _, hq, by omega, by omega, rfl, rfl, hD'⟩)⟩
      · rw [if_neg (show ¬ nI (c + 1) = 12 from fun z => q12 ((neq (b := 12) (by omega) (by omega)).mp z)), if_neg (show ¬ (12 : Int32) ≤ nI (c + 1) from fun z => by have := (nle (a := 12) (by omega) (by omega)).mp z; omega)]
        by_cases qh : hit tl ch q 46 = true
        · rw [show fX6_readLetter N (nI tl) (nI q) L 46 = _ from c_let_t N hN h hq (x := 46) (by omega) qh, bnd_s, show fX8_sign N (nI tl) (nI (sk tl ch q)) T 46 = _ from m_sign_t N hN h hq (x := 46) (by omega) qh, bnd_s]
          dsimp only
          rw [if_neg i10, if_neg i10]
          exact ih (c + 1) (sk tl ch q + 1) _ _ _ _ (by omega) (by omega) (hit_lt qh) hD'
        · rw [show fX6_readLetter N (nI tl) (nI q) L 46 = _ from c_let_f N hN h hq (x := 46) (by omega) qh, bnd_s, show fX8_sign N (nI tl) (nI (sk tl ch q)) T 46 = _ from m_sign_f N hN h hq (x := 46) (by omega) qh, bnd_s]
          dsimp only
          rw [if_pos rfl, if_pos rfl]
          exact ⟨_, _, rfl, rfl, Or.inr (Or.inl ⟨sk tl ch q, c + 1, _, _, _, _, _, sk_le ch hq, by omega, by omega, rfl, by rw [sk_sk], hD'⟩)⟩
    · have hq : q ≤ tl := Nat.le_of_lt hd.1
      dsimp only
      rw [if_neg i10, if_pos z3, c_addCell N hc, bnd_s, bnd_s, n_s1]
      dsimp only
      rw [fX8_reads_L29, if_pos rfl]
      by_cases q12 : c + 1 = 12
      · rw [if_pos (show nI (c + 1) = 12 by rw [q12]; rfl)]
        exact ⟨_, _, rfl, rfl, Or.inr (Or.inr ⟨q, _, _, hd, rfl, rfl, z4⟩)⟩
      · rw [if_neg (show ¬ nI (c + 1) = 12 from fun z => q12 ((neq (b := 12) (by omega) (by omega)).mp z)), show fX6_readLetter N (nI tl) (nI q) L 46 = _ from c_let_f N hN h hq (x := 46) (by omega) (hit_dgt hd (by omega)), bnd_s]
        dsimp only
        rw [if_pos rfl, dgt_sk hd]
        exact ⟨_, _, rfl, rfl, Or.inr (Or.inr ⟨q, _, _, hd, rfl, rfl, z4⟩)⟩
/-- the cells and the sign behind them -/
def CELLE (tl : Nat) (ch : Nat → Nat) (o r' : Int32 × Int32 × Int32 × Int32 × (Nat → Int32)) : Prop :=
  (∃ q, q ≤ tl ∧ o.1 = 0 ∧ o.2.1 = nI q ∧ r'.1 = 0 ∧ r'.2.1 = nI q) ∨
  (∃ q nc nu nu' ice rice, q ≤ tl ∧ 1 ≤ nc ∧ nc ≤ 12 ∧ CELLD nc ice rice ∧ r' = (1, nI (sk tl ch q), nu', nI nc, rice) ∧ ((hit tl ch q 59 = true ∧ o = (1, nI (sk tl ch q + 1), nu, nI nc, ice)) ∨ (¬ hit tl ch q 59 = true ∧ o.1 = 0 ∧ o.2.1 = nI (sk tl ch q))))
theorem cells_co (N : Nat) (hN : 1000 ≤ N) {tl : Nat} {ch : Nat → Nat} {L T : Nat → Int32} (h : TP tl ch L T) (nu nu' : Int32) (ice rice : Nat → Int32) :
    ∃ o r', fX6_readCells N (nI tl) 0 nu L 0 ice = some o ∧ (bnd (fX8_readsCell N (nI tl) (nI (sk tl ch 0)) nu' 0 T rice) fun o => fX8_reads_L29 N (nI tl) T N o.1 o.2.1 o.2.2.1 o.2.2.2.1 o.2.2.2.2) = some r' ∧ CELLE tl ch o r' := by
  obtain ⟨r, r', e, e', hr⟩ := cells_loop N hN h N 0 0 nu nu' ice rice (by omega) (by omega) (by omega) (fun j hj => absurd hj (Nat.not_lt_zero _))
  have e : fX6_readCells_L2 N (nI tl) L N 0 0 nu 0 ice = some r := e
  unfold fX6_readCells
  rw [e, bnd_s]
  have e' : (bnd (fX8_readsCell N (nI tl) (nI (sk tl ch 0)) nu' 0 T rice) fun o => fX8_reads_L29 N (nI tl) T N o.1 o.2.1 o.2.2.1 o.2.2.2.1 o.2.2.2.2) = some r' := e'
  rw [e']
  rcases hr with ⟨q, z, hq, rfl, z3, z4⟩ | ⟨q, nc, x, nu1, nu2, ice', rice', hq, hn1, hn2, rfl, rfl, hD⟩ | ⟨q, x, z, hd, rfl, z3, z4⟩
  · exact ⟨_, _, rfl, rfl, Or.inl ⟨q, hq, rfl, rfl, z3, z4⟩⟩
  · unfold lret
    dsimp only
    by_cases qh : hit tl ch q 59 = true
    · rw [show fX6_readLetter N (nI tl) (nI q) L 59 = _ from c_let_t N hN h hq (x := 59) (by omega) qh, bnd_s]
      exact ⟨_, _, zb_b true _, rfl, Or.inr ⟨q, nc, _, _, ice', rice', hq, hn1, hn2, hD, rfl, Or.inl ⟨qh, rfl⟩⟩⟩
    · rw [show fX6_readLetter N (nI tl) (nI q) L 59 = _ from c_let_f N hN h hq (x := 59) (by omega) qh, bnd_s]
      exact ⟨_, _, zb_b false _, rfl, Or.inr ⟨q, nc, nu, _, ice', rice', hq, hn1, hn2, hD, rfl, Or.inr ⟨qh, rfl, rfl⟩⟩⟩
  · unfold lret
    dsimp only
    have hq : q ≤ tl := Nat.le_of_lt hd.1
    rw [show fX6_readLetter N (nI tl) (nI q) L 59 = _ from c_let_f N hN h hq (x := 59) (by omega) (hit_dgt hd (by omega)), bnd_s, dgt_sk hd]
    exact ⟨_, _, zb_b false _, rfl, Or.inl ⟨q, hq, rfl, rfl, z3, z4⟩⟩
