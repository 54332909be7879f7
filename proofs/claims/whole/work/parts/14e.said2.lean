/-! PURE: sayings, both in step: the rows of them -/
def SAYD (np ns : Nat) (ju fo rs : Nat → Int32) : Prop := ∀ j, j < ns → ∃ v w : Nat, v ≤ 20 ∧ w < 2 ^ np ∧ ju j = nI v ∧ fo j = nI w ∧ rs (2 * j) = nI v ∧ rs (2 * j + 1) = nI w
theorem SAYD.put {np c v w : Nat} {ju fo fo' rs : Nat → Int32} (h : SAYD np c ju fo rs) (hv : v ≤ 20) (hw : w < 2 ^ np) (e1 : fo' c = nI w) (e2 : ∀ j, j ≠ c → fo' j = fo j) : SAYD np (c + 1) (upd ju c (nI v)) fo' (upd (upd rs (2 * c) (nI v)) (2 * c + 1) (nI w)) := by
  intro j hj
  by_cases q : j = c
  · exact ⟨v, w, hv, hw, by rw [q, upd_s], by rw [q, e1], by rw [q, upd_n (by omega), upd_s], by rw [q, upd_s]⟩
  · obtain ⟨k, u, h1, h2, h4, h5, h6, h7⟩ := h j (by omega)
    exact ⟨k, u, h1, h2, by rw [upd_n q, h4], by rw [e2 j q, h5], by rw [upd_n (by omega), upd_n (by omega), h6], by rw [upd_n (by omega), upd_n (by omega), h7]⟩
def SAYR (tl : Nat) (ch : Nat → Nat) (np : Nat) (r : (Int32 × Int32 × Int32 × Int32 × (Nat → Int32) × (Nat → Int32)) ⊕ (Int32 × Int32 × Int32 × Int32 × (Nat → Int32) × (Nat → Int32))) (r' : Int32 × Int32 × Int32 × Int32 × (Nat → Int32)) : Prop :=
  (∃ q z, q ≤ tl ∧ r = .inl (0, nI q, z) ∧ r'.1 = 0 ∧ r'.2.1 = nI q) ∨
  (∃ q ns x nu nu' ju fo rs, q ≤ tl ∧ 1 ≤ ns ∧ ns ≤ 5 ∧ r = .inr (x, nI q, nu, nI ns, ju, fo) ∧ r' = (1, nI (sk tl ch q), nu', nI ns, rs) ∧ SAYD np ns ju fo rs) ∨
  (∃ q x z, dgt tl ch q ∧ r = .inr (x, nI q, z) ∧ r'.1 = 0 ∧ r'.2.1 = nI q) ∨
  (∃ q z, dgt tl ch q ∧ r = .inl (0, nI q, z) ∧ r'.1 = 1 ∧ r'.2.1 = nI q)
theorem c_addSaying (N : Nat) {c : Nat} (hc : c < 5) (ju fo : Nat → Int32) (v w : Int32) : fX0_addSaying N (nI c) ju fo v w = some (nI (c + 1) - 1, nI (c + 1), upd ju c v, upd fo c w) := by
  unfold fX0_addSaying; rw [ixb_nI hc, ixb_nI hc, n_s1]
theorem fors_no (N : Nat) {tl : Nat} {ch : Nat → Nat} {L T : Nat → Int32} (h : TP tl ch L T) {np s a n : Nat} (hnp : np ≤ 6) (ha : a ≤ tl) (f : Nat → Int32) (hf : ¬ forp tl ch np 0 a) : fX6_readFors_L8 N (nI s) (nI tl) L (nI np) (n + 1) 0 0 (nI a) f = some (.inl (0, nI a, f)) := by
  have h1 := h.1
  rw [fX6_readFors_L8, if_neg (by decide)]
  by_cases hd : dgt tl ch a
  · have := hd.2
    rw [c_dig_t N h hd, bnd_s, if_neg (nI_pos (by omega)), if_neg (fun z => hf ⟨hd, (nlt (by omega) (by omega)).mp z, by omega⟩)]
  · rw [c_dig_f N h ha hd, bnd_s, if_pos (by decide)]
theorem said_loop (N : Nat) (hN : 1000 ≤ N) {tl : Nat} {ch : Nat → Nat} {L T : Nat → Int32} (h : TP tl ch L T) {np : Nat} (hnp : np ≤ 6) : ∀ (n s p : Nat) (nu nu' : Int32) (ju fo rs : Nat → Int32), s < 5 → 6 - s ≤ n → p ≤ tl → SAYD np s ju fo rs →
    ∃ r r', fX6_readSayings_L2 N (nI tl) L (nI np) n (nI s) (nI p) nu (nI s) ju fo = some r ∧ (bnd (fX8_readsSaying N (nI tl) (nI (sk tl ch p)) nu' (nI np) (nI s) T rs) fun o => fX8_reads_L133 N (nI tl) (nI np) T n o.1 o.2.1 o.2.2.1 o.2.2.2.1 o.2.2.2.2) = some r' ∧ SAYR tl ch np r r' := by
  have h1 := h.1
  have hpos : 0 < 2 ^ np := Nat.pos_of_ne_zero (by simp)
  intro n
  induction n with
  | zero => intro s p nu nu' ju fo rs hs hn; omega
  | succ n ih =>
    intro s p nu nu' ju fo rs hs hn hp hD
    have e0 : (2 : Int32) * nI s = nI (2 * s) := n_mul 2 s
    have tail : ∀ (q : Nat) (nu nu' : Int32) (ju fo rs : Nat → Int32), q ≤ tl → SAYD np (s + 1) ju fo rs →
        ∃ r r', (if (nI s + 1) = 5 then some (.inr (nI s, nI q, nu, nI (s + 1), ju, fo)) else bnd (fX6_readLetter N (nI tl) (nI q) L 44) fun o11 => if o11.1 = 0 then some (.inr (nI s, o11.2, nu, nI (s + 1), ju, fo)) else fX6_readSayings_L2 N (nI tl) L (nI np) n (nI s + 1) o11.2 nu (nI (s + 1)) ju fo) = some r ∧ fX8_reads_L133 N (nI tl) (nI np) T (n + 1) 1 (nI (sk tl ch q)) nu' (nI (s + 1)) rs = some r' ∧ SAYR tl ch np r r' := by
      intro q nu nu' ju fo rs hq hD'
      rw [fX8_reads_L133, if_neg i10, n_s1]
      by_cases q12 : s + 1 = 5
      · rw [if_pos (show nI (s + 1) = 5 by rw [q12]; rfl), if_pos (show (5 : Int32) ≤ nI (s + 1) by rw [q12]; decide)]
        exact ⟨_, _, rfl, rfl, Or.inr (Or.inl ⟨q, s + 1, _, _, _, _, _, _, hq, by omega, by omega, rfl, rfl, hD'⟩)⟩
      · rw [if_neg (show ¬ nI (s + 1) = 5 from fun z => q12 ((neq (b := 5) (by omega) (by omega)).mp z)), if_neg (show ¬ (5 : Int32) ≤ nI (s + 1) from fun z => by have := (nle (a := 5) (by omega) (by omega)).mp z; omega)]
        by_cases qh : hit tl ch q 44 = true
        · rw [show fX6_readLetter N (nI tl) (nI q) L 44 = _ from c_let_t N hN h hq (x := 44) (by omega) qh, bnd_s, show fX8_sign N (nI tl) (nI (sk tl ch q)) T 44 = _ from m_sign_t N hN h hq (x := 44) (by omega) qh, bnd_s]
          dsimp only
          rw [if_neg i10, if_neg i10]
          exact ih (s + 1) (sk tl ch q + 1) _ _ _ _ _ (by omega) (by omega) (hit_lt qh) hD'
        · rw [show fX6_readLetter N (nI tl) (nI q) L 44 = _ from c_let_f N hN h hq (x := 44) (by omega) qh, bnd_s, show fX8_sign N (nI tl) (nI (sk tl ch q)) T 44 = _ from m_sign_f N hN h hq (x := 44) (by omega) qh, bnd_s]
          dsimp only
          rw [if_pos rfl, if_pos rfl]
          exact ⟨_, _, rfl, rfl, Or.inr (Or.inl ⟨sk tl ch q, s + 1, _, _, _, _, _, _, sk_le ch hq, by omega, by omega, rfl, by rw [sk_sk], hD'⟩)⟩
    obtain ⟨o, o', e, e', hr⟩ := num_co N hN h hp (g := 20) (by omega) nu nu'
    have e : fX6_readNumber N (nI tl) (nI p) nu L 20 = some o := e
    have e' : fX8_readsNumber N (nI tl) (nI (sk tl ch p)) nu' T 20 = some o' := e'
    have hcc : ¬ (5 : Int32) ≤ nI s := fun z => by have := (nle (a := 5) (by omega) (by omega)).mp z; omega
    rw [fX6_readSayings_L2, if_neg hcc, e, bnd_s]
    unfold fX8_readsSaying
    rw [e', bnd_s]
    rcases hr with ⟨q, hq, z1, z2, z3, z4⟩ | ⟨v, q, hv, hq, rfl, rfl⟩ | ⟨v, q, hv, hd, rfl, z3, z4⟩
    · rw [if_pos z1, if_pos z3, bnd_s, fX8_reads_L133, if_pos rfl]
      exact ⟨_, _, rfl, rfl, Or.inl ⟨q, _, hq, by rw [z2], rfl, z4⟩⟩
    · dsimp only
      rw [if_neg i10, if_neg i10, c_addSaying N hs, bnd_s, e0]
      dsimp only
      by_cases qh : hit tl ch q 58 = true
      · have hq1 := hit_lt qh
        have ha := sk_le ch hq1
        rw [show fX6_readLetter N (nI tl) (nI q) L 58 = _ from c_let_t N hN h hq (x := 58) (by omega) qh, bnd_s, show fX8_sign N (nI tl) (nI (sk tl ch q)) T 58 = _ from m_sign_t N hN h hq (x := 58) (by omega) qh, bnd_s]
        dsimp only
        rw [if_neg i10, if_neg i10]
        unfold fX6_readFors
        rw [c_sk N hN h hq1, bnd_s]
        generalize sk tl ch (sk tl ch q + 1) = a at ha ⊢
        obtain ⟨k, hk⟩ : ∃ k, N = k + 1 := ⟨N - 1, by omega⟩
        by_cases hf : forp tl ch np 0 a
        · obtain ⟨r, r', g, g', hr⟩ := fors_loop N hN h hnp hs N 0 0 a 0 (upd fo s 0) (by omega) (by omega) (by omega) (by omega) hf.1 ⟨by decide, Or.inl rfl⟩ upd_s
          have g : fX6_readFors_L8 N (nI s) (nI tl) L (nI np) N 0 0 (nI a) (upd fo s 0) = some r := g
          have g' : fX8_readsSaying_L32 N (nI tl) (nI np) T N 0 (nI a) = some r' := g'
          rw [g, bnd_s, show fX8_isFor N (nI tl) (nI a) (nI np) T 0 = some 1 from m_for_t N h hnp (by omega) (l := 0) (w := 0) ⟨by decide, Or.inl rfl⟩ hf, bnd_s, if_neg i10, g', bnd_s, ixb_nI (by omega), n_s1 (2 * s), ixb_nI (by omega), bnd_s]
          rcases hr with ⟨b, w, x, y, f', y1, y2, y3, rfl, rfl, y6, y7⟩ | ⟨b, z, hd, rfl, y3⟩
          · unfold lret
            dsimp only
            rw [bnd_s]
            dsimp only
            rw [if_neg i10, n_s1]
            have t := tail b (nI v) (nI v) _ _ _ y1 (hD.put hv y3 y6 (fun j hj => by rw [y7 j hj, upd_n hj]))
            rw [y2, n_s1] at t
            exact t
          · have hb : b ≤ tl := Nat.le_of_lt hd.1
            unfold lret
            dsimp only
            rw [bnd_s]
            dsimp only
            rw [if_pos rfl, fX8_reads_L133, if_neg i10, y3, n_s1]
            by_cases q5 : (5 : Int32) ≤ nI (s + 1)
            · rw [if_pos q5]
              exact ⟨_, _, rfl, rfl, Or.inr (Or.inr (Or.inr ⟨b, _, hd, rfl, rfl, rfl⟩))⟩
            · have es : fX8_sign N (nI tl) (nI b) T 44 = some (0, nI b) := by
                have := m_sign_f N hN h hb (x := 44) (by omega) (hit_dgt hd (by omega))
                rw [dgt_sk hd] at this
                exact this
              rw [if_neg q5, es, bnd_s]
              dsimp only
              rw [if_pos rfl]
              exact ⟨_, _, rfl, rfl, Or.inr (Or.inr (Or.inr ⟨b, _, hd, rfl, rfl, rfl⟩))⟩
        · have g : fX6_readFors_L8 N (nI s) (nI tl) L (nI np) N 0 0 (nI a) (upd fo s 0) = some (.inl (0, nI a, upd fo s 0)) := by
            subst hk; exact fors_no _ h hnp ha _ hf
          rw [g, bnd_s, show fX8_isFor N (nI tl) (nI a) (nI np) T 0 = some 0 from m_for_f N h ha hnp (by omega) (l := 0) (w := 0) ⟨by decide, Or.inl rfl⟩ hf, bnd_s, if_pos rfl, bnd_s]
          unfold lret
          dsimp only
          rw [bnd_s]
          dsimp only
          rw [if_pos rfl, fX8_reads_L133, if_pos rfl]
          exact ⟨_, _, rfl, rfl, Or.inl ⟨a, _, ha, rfl, rfl, rfl⟩⟩
      · rw [show fX6_readLetter N (nI tl) (nI q) L 58 = _ from c_let_f N hN h hq (x := 58) (by omega) qh, bnd_s, show fX8_sign N (nI tl) (nI (sk tl ch q)) T 58 = _ from m_sign_f N hN h hq (x := 58) (by omega) qh, bnd_s]
        dsimp only
        rw [if_pos rfl, if_pos rfl, ixb_nI (by omega), n_s1 (2 * s), ixb_nI (by omega), bnd_s]
        dsimp only
        rw [n_s1]
        have t := tail (sk tl ch q) (nI v) (nI v) _ _ _ (sk_le ch hq) (hD.put (fo' := upd fo s 0) hv hpos upd_s (fun j hj => by rw [upd_n hj]))
        rw [sk_sk, n_s1] at t
        exact t
    · have hq : q ≤ tl := Nat.le_of_lt hd.1
      dsimp only
      rw [if_neg i10, if_pos z3, c_addSaying N hs, bnd_s, bnd_s]
      dsimp only
      rw [fX8_reads_L133, if_pos rfl, show fX6_readLetter N (nI tl) (nI q) L 58 = _ from c_let_f N hN h hq (x := 58) (by omega) (hit_dgt hd (by omega)), bnd_s, dgt_sk hd]
      dsimp only
      rw [if_pos rfl, n_s1]
      by_cases q12 : s + 1 = 5
      · rw [if_pos (show nI (s + 1) = 5 by rw [q12]; rfl)]
        exact ⟨_, _, rfl, rfl, Or.inr (Or.inr (Or.inl ⟨q, _, _, hd, rfl, rfl, z4⟩))⟩
      · rw [if_neg (show ¬ nI (s + 1) = 5 from fun z => q12 ((neq (b := 5) (by omega) (by omega)).mp z)), show fX6_readLetter N (nI tl) (nI q) L 44 = _ from c_let_f N hN h hq (x := 44) (by omega) (hit_dgt hd (by omega)), bnd_s]
        dsimp only
        rw [if_pos rfl, dgt_sk hd]
        exact ⟨_, _, rfl, rfl, Or.inr (Or.inr (Or.inl ⟨q, _, _, hd, rfl, rfl, z4⟩))⟩
