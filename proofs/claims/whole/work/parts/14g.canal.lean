/-! PURE: a canal as read -/
theorem m_wipe (N : Nat) (x1 x2 x3 : Int32) : ∀ (n x : Nat) (row : Nat → Int32), x ≤ 242 → 242 - x < n → ∃ y row', fX8_canal_L40 N x1 x2 x3 n (nI x) row = some (y, row') ∧ (∀ j, x ≤ j → j < 242 → row' j = 0) ∧ ∀ j, j < x ∨ 242 ≤ j → row' j = row j := by
  intro n
  induction n with
  | zero => intro x row hx hn; omega
  | succ n ih =>
    intro x row hx hn
    rw [fX8_canal_L40]
    by_cases q : x = 242
    · rw [if_pos (show (242 : Int32) ≤ nI x by rw [q]; decide)]
      exact ⟨_, _, rfl, fun j h1 h2 => by omega, fun j _ => rfl⟩
    · rw [if_neg (show ¬ (242 : Int32) ≤ nI x from fun z => by have := (nle (a := 242) (by omega) (by omega)).mp z; omega), ixb_nI (by omega), n_s1]
      obtain ⟨y, row', e, a1, a2⟩ := ih (x + 1) (upd row x 0) (by omega) (by omega)
      refine ⟨y, row', e, fun j h1 h2 => ?_, fun j hj => ?_⟩
      · by_cases qj : j = x
        · rw [a2 j (by omega), qj, upd_s]
        · exact a1 j (by omega) h2
      · rw [a2 j (by omega), upd_n (by omega)]
theorem m_layC (N : Nat) (x1 x2 x3 : Int32) {nc : Nat} (hnc : nc ≤ 12) (rice : Nat → Int32) : ∀ (n c : Nat) (row : Nat → Int32), c ≤ nc → nc - c < n → row 26 = nI c → row 41 = 0 → ∃ y row', fX8_canal_L80 N x1 x2 x3 (nI nc) rice n (nI c) row = some (y, row') ∧ row' 26 = nI nc ∧ row' 41 = 0 ∧ (∀ j, c ≤ j → j < nc → row' (3 + j) = rice j) ∧ ∀ j, j ≠ 26 → j ≠ 41 → ¬ (3 + c ≤ j ∧ j < 15) → row' j = row j := by
  intro n
  induction n with
  | zero => intro c row hc hn; omega
  | succ n ih =>
    intro c row hc hn e26 e41
    rw [fX8_canal_L80]
    by_cases q : c = nc
    · subst q
      rw [if_pos ((nle (by omega) (by omega)).mpr (Nat.le_refl _))]
      exact ⟨_, _, rfl, e26, e41, fun j h1 h2 => by omega, fun j _ _ _ => rfl⟩
    · have ea : fX8_addCell N row (rice c) = some (upd (upd (upd row (3 + c) (rice c)) 26 (nI (c + 1))) 41 0) := by
        unfold fX8_addCell; rw [e26, show (3 : Int32) + nI c = nI (3 + c) from nI_add 3 _, ixb_nI (by omega), upd_n (by omega), e26, n_s1]
      rw [if_neg (fun z => by have := (nle (by omega) (by omega)).mp z; omega), ixb_nI (by omega), ea, bnd_s, n_s1]
      obtain ⟨y, row', e, a1, a2, a3, a4⟩ := ih (c + 1) (upd (upd (upd row (3 + c) (rice c)) 26 (nI (c + 1))) 41 0) (by omega) (by omega) (by rw [upd_n (by omega), upd_s]) upd_s
      refine ⟨y, row', e, a1, a2, fun j h1 h2 => ?_, fun j h1 h2 h3 => ?_⟩
      · by_cases qj : j = c
        · rw [a4 (3 + j) (by omega) (by omega) (by omega), qj, upd_n (by omega), upd_n (by omega), upd_s]
        · exact a3 j (by omega) h2
      · rw [a4 j h1 h2 (by omega), upd_n (by omega), upd_n (by omega), upd_n (by omega)]
theorem m_layP (N : Nat) (x1 x2 x3 : Int32) {np : Nat} (hnp : np ≤ 6) (rp : Nat → Int32) : ∀ (n c : Nat) (row : Nat → Int32), c ≤ np → np - c < n → row 27 = nI c → row 41 = 0 → ∃ y row', fX8_canal_L109 N x1 x2 x3 (nI np) rp n (nI c) row = some (y, row') ∧ row' 27 = nI np ∧ row' 41 = 0 ∧ (∀ j, c ≤ j → j < np → row' (29 + j) = rp (2 * j) ∧ row' (35 + j) = rp (2 * j + 1)) ∧ ∀ j, j ≠ 27 → j ≠ 41 → ¬ (29 + c ≤ j ∧ j < 35) → ¬ (35 + c ≤ j ∧ j < 41) → row' j = row j := by
  intro n
  induction n with
  | zero => intro c row hc hn; omega
  | succ n ih =>
    intro c row hc hn e26 e41
    rw [fX8_canal_L109]
    by_cases q : c = np
    · subst q
      rw [if_pos ((nle (by omega) (by omega)).mpr (Nat.le_refl _))]
      exact ⟨_, _, rfl, e26, e41, fun j h1 h2 => by omega, fun j _ _ _ _ => rfl⟩
    · have e0 : (2 : Int32) * nI c = nI (2 * c) := n_mul 2 c
      have ea : fX8_addPerson N row (rp (2 * c)) (rp (2 * c + 1)) = some (upd (upd (upd (upd row (29 + c) (rp (2 * c))) (35 + c) (rp (2 * c + 1))) 27 (nI (c + 1))) 41 0) := by
        unfold fX8_addPerson; rw [e26, show (29 : Int32) + nI c = nI (29 + c) from nI_add 29 _, ixb_nI (by omega), upd_n (by omega), e26, show (35 : Int32) + nI c = nI (35 + c) from nI_add 35 _, ixb_nI (by omega), upd_n (by omega), upd_n (by omega), e26, n_s1]
      rw [if_neg (fun z => by have := (nle (by omega) (by omega)).mp z; omega), e0, ixb_nI (by omega), n_s1 (2 * c), ixb_nI (by omega), ea, bnd_s, n_s1]
      obtain ⟨y, row', e, a1, a2, a3, a4⟩ := ih (c + 1) (upd (upd (upd (upd row (29 + c) (rp (2 * c))) (35 + c) (rp (2 * c + 1))) 27 (nI (c + 1))) 41 0) (by omega) (by omega) (by rw [upd_n (by omega), upd_s]) upd_s
      refine ⟨y, row', e, a1, a2, fun j h1 h2 => ?_, fun j h1 h2 h3 h4 => ?_⟩
      · by_cases qj : j = c
        · rw [a4 (29 + j) (by omega) (by omega) (by omega) (by omega), a4 (35 + j) (by omega) (by omega) (by omega) (by omega), qj]
          exact ⟨by rw [upd_n (by omega), upd_n (by omega), upd_n (by omega), upd_s], by rw [upd_n (by omega), upd_n (by omega), upd_s]⟩
        · exact a3 j (by omega) h2
      · rw [a4 j h1 h2 (by omega) (by omega), upd_n (by omega), upd_n (by omega), upd_n (by omega), upd_n (by omega)]
theorem m_layS (N : Nat) (x1 x2 x3 : Int32) {ns : Nat} (hns : ns ≤ 5) (rs : Nat → Int32) : ∀ (n c : Nat) (row : Nat → Int32), c ≤ ns → ns - c < n → row 28 = nI c → row 41 = 0 → ∃ y row', fX8_canal_L151 N x1 x2 x3 (nI ns) rs n (nI c) row = some (y, row') ∧ row' 28 = nI ns ∧ row' 41 = 0 ∧ (∀ j, c ≤ j → j < ns → row' (15 + j) = rs (2 * j) ∧ row' (20 + j) = rs (2 * j + 1)) ∧ ∀ j, j ≠ 28 → j ≠ 41 → ¬ (15 + c ≤ j ∧ j < 20) → ¬ (20 + c ≤ j ∧ j < 25) → row' j = row j := by
  intro n
  induction n with
  | zero => intro c row hc hn; omega
  | succ n ih =>
    intro c row hc hn e26 e41
    rw [fX8_canal_L151]
    by_cases q : c = ns
    · subst q
      rw [if_pos ((nle (by omega) (by omega)).mpr (Nat.le_refl _))]
      exact ⟨_, _, rfl, e26, e41, fun j h1 h2 => by omega, fun j _ _ _ _ => rfl⟩
    · have e0 : (2 : Int32) * nI c = nI (2 * c) := n_mul 2 c
      have ea : fX8_addSaying N row (rs (2 * c)) (rs (2 * c + 1)) = some (upd (upd (upd (upd row (15 + c) (rs (2 * c))) (20 + c) (rs (2 * c + 1))) 28 (nI (c + 1))) 41 0) := by
        unfold fX8_addSaying; rw [e26, show (15 : Int32) + nI c = nI (15 + c) from nI_add 15 _, ixb_nI (by omega), upd_n (by omega), e26, show (20 : Int32) + nI c = nI (20 + c) from nI_add 20 _, ixb_nI (by omega), upd_n (by omega), upd_n (by omega), e26, n_s1]
      rw [if_neg (fun z => by have := (nle (by omega) (by omega)).mp z; omega), e0, ixb_nI (by omega), n_s1 (2 * c), ixb_nI (by omega), ea, bnd_s, n_s1]
      obtain ⟨y, row', e, a1, a2, a3, a4⟩ := ih (c + 1) (upd (upd (upd (upd row (15 + c) (rs (2 * c))) (20 + c) (rs (2 * c + 1))) 28 (nI (c + 1))) 41 0) (by omega) (by omega) (by rw [upd_n (by omega), upd_s]) upd_s
      refine ⟨y, row', e, a1, a2, fun j h1 h2 => ?_, fun j h1 h2 h3 h4 => ?_⟩
      · by_cases qj : j = c
        · rw [a4 (15 + j) (by omega) (by omega) (by omega) (by omega), a4 (20 + j) (by omega) (by omega) (by omega) (by omega), qj]
          exact ⟨by rw [upd_n (by omega), upd_n (by omega), upd_n (by omega), upd_s], by rw [upd_n (by omega), upd_n (by omega), upd_s]⟩
        · exact a3 j (by omega) h2
      · rw [a4 j h1 h2 (by omega) (by omega), upd_n (by omega), upd_n (by omega), upd_n (by omega), upd_n (by omega)]
def nV (x : Int32) : Nat := x.toNatClampNeg
theorem nV_eq {x : Int32} {v : Nat} (e : x = nI v) (hv : v < 2 ^ 31) : nV x = v := by rw [e]; exact nI_clamp hv
theorem rc_new {nc np ns fr dr : Nat} {ice kind weight ju fo rice rp rs i2 k2 w2 j2 f2 row : Nat → Int32} {Y : BV_history} (h12 : nc ≤ 12) (h6 : np ≤ 6) (h5 : ns ≤ 5) (hfr : fr ≤ 9) (hdr : dr < 2 ^ 31) (hC : CELLD nc ice rice) (hP : PERD np kind weight rp) (hS : SAYD np ns ju fo rs) (hY : ∃ x, x < 8 ∧ Y.1 = nI x)
    (r0 : row 0 = 0) (r1 : row 1 = 0) (r2 : row 2 = nI dr) (r3 : ∀ j, j < nc → row (3 + j) = rice j) (r15 : ∀ j, j < ns → row (15 + j) = rs (2 * j) ∧ row (20 + j) = rs (2 * j + 1)) (r25 : row 25 = nI fr) (r26 : row 26 = nI nc) (r27 : row 27 = nI np) (r28 : row 28 = nI ns) (r29 : ∀ j, j < np → row (29 + j) = rp (2 * j) ∧ row (35 + j) = rp (2 * j + 1)) (r41 : row 41 = 0) :
    RC (nI nc, nI np, nI ns, nI fr, va_cpy kind k2 0 0 6, va_cpy weight w2 0 0 6, 0, 0, nI dr, va_cpy ice i2 0 0 12, va_cpy ju j2 0 0 5, va_cpy fo f2 0 0 5) (Y.1, 0, Y.2.2) row := by
  obtain ⟨x, hx, ex⟩ := hY
  have c1 : ∀ j, j < nc → nV (ice j) ≤ 60 ∧ ice j = nI (nV (ice j)) ∧ row (3 + j) = nI (nV (ice j)) := fun j hj => by
    obtain ⟨v, v1, v2, v3⟩ := hC j hj
    rw [nV_eq v2 (by omega)]; exact ⟨v1, v2, (r3 j hj).trans v3⟩
  have p1 : ∀ j, j < np → (nV (kind j) ≤ 4 ∧ 1 ≤ nV (weight j) ∧ nV (weight j) ≤ 9) ∧ (kind j = nI (nV (kind j)) ∧ weight j = nI (nV (weight j))) ∧ row (29 + j) = nI (nV (kind j)) ∧ row (35 + j) = nI (nV (weight j)) := fun j hj => by
    obtain ⟨v, w, v1, v2, v3, v4, v5, v6, v7⟩ := hP j hj
    rw [nV_eq v4 (by omega), nV_eq v5 (by omega)]; exact ⟨⟨v1, v2, v3⟩, ⟨v4, v5⟩, (r29 j hj).1.trans v6, (r29 j hj).2.trans v7⟩
  have s1 : ∀ j, j < ns → (nV (ju j) ≤ 20 ∧ nV (fo j) < 2 ^ np) ∧ (ju j = nI (nV (ju j)) ∧ fo j = nI (nV (fo j))) ∧ row (15 + j) = nI (nV (ju j)) ∧ row (20 + j) = nI (nV (fo j)) := fun j hj => by
    obtain ⟨v, w, v1, v3, v4, v5, v6, v7⟩ := hS j hj
    have := pow6 h6
    rw [nV_eq v4 (by omega), nV_eq v5 (by omega)]; exact ⟨⟨v1, v3⟩, ⟨v4, v5⟩, (r15 j hj).1.trans v6, (r15 j hj).2.trans v7⟩
  refine ⟨(nc, np, ns, fr, (fun j => nV (kind j)), (fun j => nV (weight j))), (0, 0, dr, (fun j => nV (ice j)), (fun j => nV (ju j)), (fun j => nV (fo j))), 0, (fun _ => (0, 0, 0, (fun _ => 0), (fun _ => 0), (fun _ => 0))), ⟨⟨h12, h6, h5, hfr, fun p hp => (p1 p hp).1⟩, ⟨Nat.zero_le _, Nat.zero_le _, hdr, fun j hj => (c1 j hj).1, fun j hj => (s1 j hj).1⟩, by omega, fun i hi => absurd hi (Nat.not_lt_zero _)⟩, ⟨⟨rfl, rfl, rfl, rfl, fun p hp => ?_⟩, cmo_take h12 h5 ⟨rfl, rfl, rfl, fun j hj => (c1 j hj).2.1, fun j hj => (s1 j hj).2.1⟩, rfl, x, hx, ex, fun i hi => absurd hi (Nat.not_lt_zero _)⟩, ⟨⟨r25, r26, r27, r28, fun p hp => (p1 p hp).2.2⟩, ⟨r0, r1, r2, fun j hj => ?_, fun j hj => ?_⟩, r41, fun i hi => absurd hi (Nat.not_lt_zero _)⟩⟩
  · have hp' : p < np := hp
    show va_cpy kind k2 0 0 6 p = nI (nV (kind p)) ∧ va_cpy weight w2 0 0 6 p = nI (nV (weight p))
    rw [sb_cpy0 (by omega), sb_cpy0 (by omega)]; exact (p1 p hp).2.1
  · rw [show 0 + 3 + j = 3 + j by omega]; exact (c1 j hj).2.2
  · rw [show 0 + 15 + j = 15 + j by omega, show 0 + 20 + j = 20 + j by omega]; exact (s1 j hj).2.2
theorem sim_canal (N : Nat) (hN : 1000 ≤ N) : Simcanal N Rel := by
  intro S M hR
  obtain ⟨⟨c, m, k, hh, hB, hC, hM⟩, hI, ⟨tl, ht, t1, t2, t3⟩, hD, hZ⟩ := id hR
  have hTP : TP tl (fun j => nV (S.2.2.2.2.2.1.2.2.2 j)) S.2.2.2.2.2.1.2.2.2 M.2.2.2.2.2.2.2.2.2.2.2.2.2.1 := ⟨ht, fun j hj => by
    obtain ⟨v, v1, v2, v3, v4⟩ := t3 j hj
    show 32 ≤ nV _ ∧ nV _ ≤ 126 ∧ _ = nI (nV _) ∧ _ = nI (nV _)
    rw [nV_eq v3 (by omega)]; exact ⟨v1, v2, v3, v4⟩⟩
  obtain ⟨o, o', e, e', hr⟩ := reads_co N hN hTP S.2.2.2.2.2.1.2.1 S.2.2.2.2.2.1.2.2.1 S.2.2.2.2.2.2.1.1 S.2.2.2.2.2.2.1.2.1 S.2.2.2.2.2.2.1.2.2.1 S.2.2.2.2.2.2.1.2.2.2.1 S.2.2.2.2.2.2.1.2.2.2.2.1 S.2.2.2.2.2.2.1.2.2.2.2.2.1 S.2.2.2.2.2.2.1.2.2.2.2.2.2.1 S.2.2.2.2.2.2.1.2.2.2.2.2.2.2.1 S.2.2.2.2.2.2.1.2.2.2.2.2.2.2.2.1 S.2.2.2.2.2.2.1.2.2.2.2.2.2.2.2.2.1 S.2.2.2.2.2.2.1.2.2.2.2.2.2.2.2.2.2.1 S.2.2.2.2.2.2.1.2.2.2.2.2.2.2.2.2.2.2 S.1 M.2.2.1 M.2.2.2.1 M.2.2.2.2.1 M.2.2.2.2.2.1 M.2.2.2.2.2.2.1 M.2.2.2.2.2.2.2.2.2.2.2.2.2.2.1 M.2.2.2.2.2.2.2.2.2.2.2.2.2.2.2.1 M.2.2.2.2.2.2.2.2.2.2.2.2.2.2.2.2.1
  unfold fX7_canal fX8_canal
  rw [t1, t2, e, e', bnd_s, bnd_s]
  rcases hr with ⟨q, hq, z1, z2, z3, z4⟩ | ⟨nc, np, ns, ice, kind, weight, ju, fo, rice, rp, rs, hn1, hn2, hp2, hs2, hCD, hPD, hSD, z1, z2, y1, y2, y3, y4, y5, y6, y7⟩
  · have le : o.1 ≤ 0 := by
      rw [z1]
      exact (by decide +kernel : ∀ q, q < 111 → (-20 : Int32) - nI q ≤ 0) q (by omega)
    rw [if_pos le, if_pos z3]
    refine ⟨_, _, rfl, rfl, z1.trans (by rw [z4]), ?_, hI, ⟨0, by omega, rfl, rfl, fun j hj => absurd hj (Nat.not_lt_zero _)⟩, hD, hZ⟩
    show RC o.2.2.2.2.2.2.2.2.2.2.2.2.2 S.2.1 _
    rw [z2]
    exact ⟨c, m, k, hh, hB, hC, hM⟩
  · have gt : ¬ o.1 ≤ 0 := by
      rw [z1]
      exact fun z => by have := (nle (b := 0) (by omega) (by omega)).mp z; omega
    have ne : ¬ o'.1 = 0 := by rw [y1]; exact i10
    have eF : S.1.2.2.2.1 = nI c.2.2.2.1 := hC.1.2.2.2.1
    have eD : S.1.2.2.2.2.2.2.2.2.1 = nI m.2.2.1 := hC.2.1.2.2.1
    have eF' : M.2.2.2.2.2.2.2.2.2.1 25 = nI c.2.2.2.1 := hM.1.1
    have eD' : M.2.2.2.2.2.2.2.2.2.1 2 = nI m.2.2.1 := hM.2.1.2.2.1
    obtain ⟨ya, ra, ea, a1, a2⟩ := m_wipe N o'.1 (M.2.2.2.2.2.2.2.2.2.1 2) (M.2.2.2.2.2.2.2.2.2.1 25) N 0 M.2.2.2.2.2.2.2.2.2.1 (by omega) (by omega)
    obtain ⟨yb, rb, eb, b1, b2, b3, b4⟩ := m_layC N o'.1 (M.2.2.2.2.2.2.2.2.2.1 2) (M.2.2.2.2.2.2.2.2.2.1 25) hn2 rice N 0 (upd (upd ra 2 (M.2.2.2.2.2.2.2.2.2.1 2)) 25 (M.2.2.2.2.2.2.2.2.2.1 25)) (by omega) (by omega) (by rw [upd_n (by omega), upd_n (by omega), a1 26 (by omega) (by omega)]; rfl) (by rw [upd_n (by omega), upd_n (by omega), a1 41 (by omega) (by omega)])
    obtain ⟨yc, rc, ec, c1, c2, c3, c4⟩ := m_layP N o'.1 (M.2.2.2.2.2.2.2.2.2.1 2) (M.2.2.2.2.2.2.2.2.2.1 25) hp2 rp N 0 rb (by omega) (by omega) (by rw [b4 27 (by omega) (by omega) (by omega), upd_n (by omega), upd_n (by omega), a1 27 (by omega) (by omega)]; rfl) b2
    obtain ⟨yd, rd, ed, d1, d2, d3, d4⟩ := m_layS N o'.1 (M.2.2.2.2.2.2.2.2.2.1 2) (M.2.2.2.2.2.2.2.2.2.1 25) hs2 rs N 0 rc (by omega) (by omega) (by rw [c4 28 (by omega) (by omega) (by omega) (by omega), b4 28 (by omega) (by omega) (by omega), upd_n (by omega), upd_n (by omega), a1 28 (by omega) (by omega)]; rfl) c2
    have ea : fX8_canal_L40 N o'.1 (M.2.2.2.2.2.2.2.2.2.1 2) (M.2.2.2.2.2.2.2.2.2.1 25) N 0 M.2.2.2.2.2.2.2.2.2.1 = some (ya, ra) := ea
    have eb : fX8_canal_L80 N o'.1 (M.2.2.2.2.2.2.2.2.2.1 2) (M.2.2.2.2.2.2.2.2.2.1 25) (nI nc) rice N 0 (upd (upd ra 2 (M.2.2.2.2.2.2.2.2.2.1 2)) 25 (M.2.2.2.2.2.2.2.2.2.1 25)) = some (yb, rb) := eb
    have ec : fX8_canal_L109 N o'.1 (M.2.2.2.2.2.2.2.2.2.1 2) (M.2.2.2.2.2.2.2.2.2.1 25) (nI np) rp N 0 rb = some (yc, rc) := ec
    have ed : fX8_canal_L151 N o'.1 (M.2.2.2.2.2.2.2.2.2.1 2) (M.2.2.2.2.2.2.2.2.2.1 25) (nI ns) rs N 0 rc = some (yd, rd) := ed
    have q26 : rd 26 = nI nc := by rw [d4 26 (by omega) (by omega) (by omega) (by omega), c4 26 (by omega) (by omega) (by omega) (by omega)]; exact b1
    have low : ∀ j, j ≠ 26 → j ≠ 27 → j ≠ 28 → j ≠ 41 → (j < 3 ∨ j = 25 ∨ 41 < j) → rd j = upd (upd ra 2 (M.2.2.2.2.2.2.2.2.2.1 2)) 25 (M.2.2.2.2.2.2.2.2.2.1 25) j := fun j _ _ _ _ _ => by
      rw [d4 j (by omega) (by omega) (by omega) (by omega), c4 j (by omega) (by omega) (by omega) (by omega), b4 j (by omega) (by omega) (by omega)]
    have q : ∀ j, 242 ≤ j → rd j = M.2.2.2.2.2.2.2.2.2.1 j := fun j hj => by
      rw [low j (by omega) (by omega) (by omega) (by omega) (by omega), upd_n (by omega), upd_n (by omega), a2 j (by omega)]
    rw [if_neg gt, if_neg ne, y2, y3, y4, y5, y6, y7, ea, bnd_s, eb, bnd_s, ec, bnd_s, ed, bnd_s]
    refine ⟨_, _, rfl, rfl, z1.trans q26.symm, ?_, hI.keep (fun j h1 h2 => q j h1), ⟨0, by omega, rfl, rfl, fun j hj => absurd hj (Nat.not_lt_zero _)⟩, hD, hZ⟩
    show RC o.2.2.2.2.2.2.2.2.2.2.2.2.2 (S.2.1.1, 0, S.2.1.2.2) rd
    rw [z2, eF, eD, show S.2.2.2.2.2.2.1.2.2.2.2.2.2.1 = 0 from hD.1, show S.2.2.2.2.2.2.1.2.2.2.2.2.2.2.1 = 0 from hD.2]
    obtain ⟨x, hx, ex, -⟩ := hC.2.2.2
    refine rc_new hn2 hp2 hs2 hB.1.2.2.2.1 hB.2.1.2.2.1 hCD hPD hSD ⟨x, hx, ex⟩ ?_ ?_ ?_ (fun j hj => ?_) (fun j hj => d3 j (by omega) hj) ?_ q26 ?_ d1 (fun j hj => ?_) d2
    · rw [low 0 (by omega) (by omega) (by omega) (by omega) (by omega), upd_n (by omega), upd_n (by omega), a1 0 (by omega) (by omega)]
    · rw [low 1 (by omega) (by omega) (by omega) (by omega) (by omega), upd_n (by omega), upd_n (by omega), a1 1 (by omega) (by omega)]
    · rw [low 2 (by omega) (by omega) (by omega) (by omega) (by omega), upd_n (by omega), upd_s]; exact eD'
    · rw [d4 (3 + j) (by omega) (by omega) (by omega) (by omega), c4 (3 + j) (by omega) (by omega) (by omega) (by omega)]; exact b3 j (by omega) hj
    · rw [low 25 (by omega) (by omega) (by omega) (by omega) (by omega), upd_s]; exact eF'
    · rw [d4 27 (by omega) (by omega) (by omega) (by omega)]; exact c1
    · rw [d4 (29 + j) (by omega) (by omega) (by omega) (by omega), d4 (35 + j) (by omega) (by omega) (by omega) (by omega)]; exact c3 j (by omega) hj
